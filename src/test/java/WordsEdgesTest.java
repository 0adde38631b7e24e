/** The edges of Term 4 and of Promises 12 (words) and 15 (spoken): a method for each sentence. */
public final class WordsEdgesTest {
    private static final String NINES = "nine hundred ninety nine";

    public static void main(String[] args) {
        fromZeroOn();
        upToTheLast();
        anotherNumber();
        zero();
        upToNineteen();
        tens();
        hundreds();
        thousands();
        millions();
        partsThatAreZero();
        oneBlankBetween();
        spokenOfTheLongest();
        spokenOfNone();
        spokenOfAnEmptyLine();
        spokenOutOfOrder();
        spokenChangesNothing();
        Check.end();
    }

    /** Both ways, where a line can have so many bytes. */
    private static void is(int n, String want) {
        TypedAmounts x = new TypedAmounts();
        Check.due("bytes of " + n, x.words(n), want.length());
        Check.due("words of " + n, Check.display(x), want);
        if (want.length() <= 60) {
            TypedAmounts y = new TypedAmounts();
            Check.add(y, want);
            Check.due("spoken of " + want, y.spoken(), n);
            y.undo(1);
            Check.due("spoken of " + want + " less a byte", y.spoken() == n, false);
        }
    }

    private static void fromZeroOn() {
        Check.sentence("Term 4", "WORDS of a whole number 0 .. 999999999");
        is(0, "zero");
        is(1, "one");
        TypedAmounts x = new TypedAmounts();
        Check.due("-1", x.words(-1), -1);
        Check.due("nothing is SHOWN", x.count(3), 0);
    }

    private static void upToTheLast() {
        Check.sentence("Term 4", "WORDS of a whole number 0 .. 999999999");
        is(999999998, NINES + " million " + NINES + " thousand nine hundred ninety eight");
        is(999999999, NINES + " million " + NINES + " thousand " + NINES);
        TypedAmounts x = new TypedAmounts();
        Check.due("1000000000", x.words(1000000000), -1);
        Check.due("nothing is SHOWN", x.count(3), 0);
    }

    private static void anotherNumber() {
        Check.sentence("Promise 12", "NONE for another number.");
        TypedAmounts x = new TypedAmounts();
        x.words(5);
        for (int n : new int[] {-1, -2, -5, 1000000000, 1000000001, Integer.MAX_VALUE, Integer.MIN_VALUE, Integer.MIN_VALUE + 1}) {
            Check.due("words of " + n, x.words(n), -1);
            Check.due("what was SHOWN stays", Check.display(x), "five");
        }
    }

    private static void zero() {
        Check.sentence("Term 4", "'zero', or");
        is(0, "zero");
        for (String text : new String[] {"zero zero", "zero one", "one zero", "twenty zero", "one hundred zero", "zero hundred",
            "zero hundred one", "zero thousand", "zero thousand one", "zero million", "one million zero thousand one",
            "one million zero", "one thousand zero"}) {
            notSpoken(text);
        }
    }

    private static void upToNineteen() {
        Check.sentence("Term 4", "'one' .. 'nineteen', or 'twenty'");
        String[] names = ("one two three four five six seven eight nine ten eleven twelve thirteen fourteen fifteen sixteen "
                + "seventeen eighteen nineteen").split(" ");
        for (int n = 1; n <= 19; n++) {
            is(n, names[n - 1]);
            is(n * 1000, names[n - 1] + " thousand");
            is(n * 1000000, names[n - 1] + " million");
            is(100 + n, "one hundred " + names[n - 1]);
        }
        is(20, "twenty");
    }

    private static void tens() {
        Check.sentence("Term 4", "'twenty', 'thirty', 'forty', 'fifty', 'sixty', 'seventy', 'eighty', 'ninety', "
                + "alone or with 'one' .. 'nine' behind");
        String[] names = "twenty thirty forty fifty sixty seventy eighty ninety".split(" ");
        for (int ten = 2; ten <= 9; ten++) {
            is(ten * 10, names[ten - 2]);
            is(ten * 10 + 1, names[ten - 2] + " one");
            is(ten * 10 + 9, names[ten - 2] + " nine");
            notSpoken(names[ten - 2] + " ten");
            notSpoken(names[ten - 2] + " zero");
            notSpoken(names[ten - 2] + " " + names[ten - 2]);
        }
    }

    private static void hundreds() {
        Check.sentence("Term 4", "up to 999: hundreds ('two hundred'), then up to 99");
        is(99, "ninety nine");
        is(100, "one hundred");
        is(101, "one hundred one");
        is(110, "one hundred ten");
        is(119, "one hundred nineteen");
        is(120, "one hundred twenty");
        is(199, "one hundred ninety nine");
        is(200, "two hundred");
        is(900, "nine hundred");
        is(999, NINES);
        notSpoken("ten hundred");
        notSpoken("nineteen hundred");
        notSpoken("twenty hundred");
        notSpoken("twenty one hundred");
        notSpoken("hundred");
        notSpoken("hundred one");
        notSpoken("one hundred hundred");
        notSpoken("one hundred one hundred");
    }

    private static void thousands() {
        Check.sentence("Term 4", "'million', 'thousand' behind their part");
        is(1000, "one thousand");
        is(1001, "one thousand one");
        is(1099, "one thousand ninety nine");
        is(1100, "one thousand one hundred");
        is(1999, "one thousand " + NINES);
        is(2000, "two thousand");
        is(99000, "ninety nine thousand");
        is(100000, "one hundred thousand");
        is(999000, NINES + " thousand");
        is(999999, NINES + " thousand " + NINES);
        notSpoken("thousand");
        notSpoken("thousand one");
        notSpoken("one thousand thousand");
        notSpoken("one thousand one thousand");
        notSpoken("one hundred thousand one thousand");
    }

    private static void millions() {
        Check.sentence("Term 4", "millions, then thousands, then the rest");
        is(1000000, "one million");
        is(1000001, "one million one");
        is(1001000, "one million one thousand");
        is(1001001, "one million one thousand one");
        is(999000000, NINES + " million");
        is(999000999, NINES + " million " + NINES);
        notSpoken("million");
        notSpoken("one million million");
        notSpoken("one million one million");
        notSpoken("one thousand million");
        notSpoken("one thousand one million");
        notSpoken("one one million");
    }

    private static void partsThatAreZero() {
        Check.sentence("Term 4", "each if it is not 0");
        is(5000000, "five million");
        is(5000005, "five million five");
        is(5005000, "five million five thousand");
        is(5000, "five thousand");
        is(5005, "five thousand five");
        is(500, "five hundred");
        is(505, "five hundred five");
        is(500500500, "five hundred million five hundred thousand five hundred");
    }

    private static void oneBlankBetween() {
        Check.sentence("Term 4", "one blank between each two");
        is(21, "twenty one");
        notSpoken("twentyone");
        notSpoken("twenty  one");
        notSpoken(" twenty one");
        notSpoken("twenty one ");
        notSpoken("twenty-one");
        notSpoken("twenty\u0000one");
        notSpoken("twenty\tone");
        notSpoken("one hundred and one");
        notSpoken("one hundred, one");
    }

    private static void notSpoken(String text) {
        TypedAmounts x = new TypedAmounts();
        Check.add(x, text);
        Check.due("spoken of '" + text + "'", x.spoken(), -1);
    }

    private static void spokenOfTheLongest() {
        Check.sentence("Promise 15", "THE LINE, as WORDS: the number.");
        is(223323, "two hundred twenty three thousand three hundred twenty three");
        is(223923, "two hundred twenty three thousand nine hundred twenty three");
        is(999000011, NINES + " million eleven");
        is(999011000, NINES + " million eleven thousand");
        TypedAmounts x = new TypedAmounts();
        Check.add(x, "two hundred twenty three thousand three hundred seventy three");
        Check.due("61 bytes do not come", x.count(1), 60);
        Check.due("so it is none's", x.spoken(), -1);
    }

    private static void spokenOfNone() {
        Check.sentence("Promise 15", "NONE: it is none's.");
        for (String text : new String[] {"x", "1", "-", "onee", "on", "One", "ONE", "fourty", "minus one", "one point five",
            "a hundred", "one\u0000", "\u0000one", "\u00ff", "millionone", "one billion", "eleventy"}) {
            notSpoken(text);
        }
        TypedAmounts x = new TypedAmounts();
        for (int i = 0; i < 60; i++) {
            x.key(' ');
        }
        Check.due("60 blanks", x.spoken(), -1);
    }

    private static void spokenOfAnEmptyLine() {
        Check.sentence("Promise 15", "NONE: it is none's.");
        TypedAmounts x = new TypedAmounts();
        Check.due("a new line", x.spoken(), -1);
        Check.add(x, "one");
        Check.due("one", x.spoken(), 1);
        x.undo(3);
        Check.due("an empty line", x.spoken(), -1);
        x.key(' ');
        Check.due("a blank", x.spoken(), -1);
        x.words(1);
        Check.due("what is SHOWN is not the line", x.spoken(), -1);
        x.take();
        Check.due("taken, it is", x.spoken(), 1);
    }

    /** What such names would come to may be any number, by the wrap-around of ints: it is none's WORDS. */
    private static void spokenOutOfOrder() {
        Check.sentence("Promise 15", "NONE: it is none's.");
        notSpoken("ten million ten million ten million ten million ten million");
        notSpoken("one hundred hundred hundred hundred hundred hundred hundred");
        notSpoken("hundred hundred hundred hundred hundred hundred hundred");
        notSpoken("ninety hundred hundred hundred million ninety hundred");
        notSpoken("two hundred hundred million");
        notSpoken("one hundred million hundred");
        notSpoken("nine hundred hundred hundred hundred million one");
        notSpoken("ninety nine hundred thousand");
        notSpoken("one thousand hundred");
        notSpoken("one two");
        notSpoken("one one");
        notSpoken("ten one");
        notSpoken("one ten");
        notSpoken("one twenty");
        notSpoken("ten ten");
        notSpoken("five five hundred");
        notSpoken("one thousand one million one");
    }

    private static void spokenChangesNothing() {
        Check.sentence("Promise 15", "THE LINE, as WORDS: the number.");
        TypedAmounts x = new TypedAmounts();
        x.words(12);
        Check.add(x, "thirty one");
        Check.due("spoken", x.spoken(), 31);
        Check.due("again", x.spoken(), 31);
        Check.due("the line stays", x.count(1), 10);
        Check.due("what was SHOWN stays", Check.display(x), "twelve");
    }
}
