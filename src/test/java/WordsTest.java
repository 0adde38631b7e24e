import java.util.Random;
import java.util.regex.Pattern;

/** Promises 12 (words), 15 (spoken), against rules written anew here. */
public final class WordsTest {
    private static final String[] UNITS = ("zero one two three four five six seven eight nine ten eleven twelve thirteen "
            + "fourteen fifteen sixteen seventeen eighteen nineteen").split(" ");
    private static final String[] TENS = "- - twenty thirty forty fifty sixty seventy eighty ninety".split(" ");
    private static final Pattern WORDS = pattern();

    public static void main(String[] args) {
        written();
        refused();
        everyNumber();
        noWords();
        mixedNames();
        Check.end();
    }

    private static void is(int n, String want) {
        TypedAmounts x = new TypedAmounts();
        Check.due("bytes of " + n, x.words(n), want.length());
        Check.due("words of " + n, Check.display(x), want);
    }

    private static void written() {
        is(0, "zero");
        is(10, "ten");
        is(19, "nineteen");
        is(20, "twenty");
        is(21, "twenty one");
        is(99, "ninety nine");
        is(100, "one hundred");
        is(101, "one hundred one");
        is(110, "one hundred ten");
        is(1000, "one thousand");
        is(1001, "one thousand one");
        is(200000, "two hundred thousand");
        is(1000000, "one million");
        is(1000001, "one million one");
        is(14000020, "fourteen million twenty");
        is(999999999, "nine hundred ninety nine million nine hundred ninety nine thousand nine hundred ninety nine");
        is(373373373, "three hundred seventy three million three hundred seventy three thousand three hundred seventy three");
    }

    private static void refused() {
        TypedAmounts x = new TypedAmounts();
        x.words(5);
        Check.due("-1", x.words(-1), -1);
        Check.due("1000000000", x.words(1000000000), -1);
        Check.due("least", x.words(Integer.MIN_VALUE), -1);
        Check.due("greatest", x.words(Integer.MAX_VALUE), -1);
        Check.due("what was SHOWN stays", Check.display(x), "five");
    }

    private static String below1000(int n) {
        String hundreds = n >= 100 ? UNITS[n / 100] + " hundred" : "";
        int rest = n % 100;
        String small = rest == 0 ? "" : rest < 20 ? UNITS[rest] : TENS[rest / 10] + (rest % 10 == 0 ? "" : " " + UNITS[rest % 10]);
        return (hundreds + " " + small).trim();
    }

    private static String words(int n) {
        if (n == 0) {
            return "zero";
        }
        String millions = n >= 1000000 ? below1000(n / 1000000) + " million" : "";
        String thousands = n / 1000 % 1000 > 0 ? below1000(n / 1000 % 1000) + " thousand" : "";
        return ((millions + " " + thousands).trim() + " " + below1000(n % 1000)).trim();
    }

    private static void both(int n) {
        TypedAmounts x = new TypedAmounts();
        String want = words(n);
        Check.due("bytes of " + n, x.words(n), want.length());
        Check.due("words of " + n, Check.display(x), want);
        if (want.length() <= 60) {
            Check.due("take of " + n, x.take(), want.length());
            Check.due("spoken of " + n, x.spoken(), n);
            Check.due("spoken leaves what is SHOWN", x.count(3), want.length());
            Check.due("spoken leaves the line", x.count(1), want.length());
        }
    }

    private static void everyNumber() {
        for (int n = 0; n < 30000; n++) {
            both(n);
        }
        Random random = new Random(4);
        int[] sizes = {100, 1000, 1000000, 1000000000};
        for (int i = 0; i < 30000; i++) {
            both(random.nextInt(sizes[i % 4]));
            both(random.nextInt(1000) * 1000000);
            both(random.nextInt(1000) * 1000);
            both(random.nextInt(1000) * 1000000 + random.nextInt(20));
        }
    }

    private static void noWords() {
        String[] none = {"", " ", "one ", " one", "one  two", "One", "ONE", "and", "one hundred and one", "twenty-one",
            "zero zero", "zero one", "one zero", "twenty zero", "zero hundred", "zero thousand", "thousand", "hundred",
            "million", "one one", "one two", "ten one", "one ten", "twenty ten", "twenty eleven", "twenty thirty",
            "ten hundred", "twenty hundred", "eleven hundred", "one hundred hundred", "one hundred two hundred",
            "one thousand thousand", "one thousand million", "one thousand one million", "one million one million",
            "one thousand two thousand", "one hundred zero", "oneone", "on", "ones", "five hundred million thousand",
            "one\u0000", "fourty", "1", "ninety nineteen", "one hundred one hundred thousand"};
        TypedAmounts x = new TypedAmounts();
        for (String text : none) {
            Check.type(x, text);
            Check.due("spoken of " + text, x.spoken(), -1);
        }
    }

    private static Pattern pattern() {
        String one = "(?:one|two|three|four|five|six|seven|eight|nine)";
        String teen = "(?:ten|eleven|twelve|thirteen|fourteen|fifteen|sixteen|seventeen|eighteen|nineteen)";
        String ten = "(?:twenty|thirty|forty|fifty|sixty|seventy|eighty|ninety)";
        String below100 = "(?:" + one + "|" + teen + "|" + ten + "(?: " + one + ")?)";
        String part = "(?:" + one + " hundred(?: " + below100 + ")?|" + below100 + ")";
        return Pattern.compile("zero|(?=.)(?:" + part + " million(?: |$))?(?:" + part + " thousand(?: |$))?(?:" + part + ")?(?<! )");
    }

    /** Random names joined by blanks are WORDS just if the rules say so. */
    private static void mixedNames() {
        Random random = new Random(15);
        String[] names = (String.join(" ", UNITS) + " twenty thirty ninety hundred hundred thousand thousand million").split(" ");
        for (int i = 0; i < 200000; i++) {
            StringBuilder text = new StringBuilder();
            int many = 1 + random.nextInt(5);
            for (int k = 0; k < many; k++) {
                text.append(k == 0 ? "" : " ").append(names[random.nextInt(names.length)]);
            }
            if (text.length() > 60) {
                continue;
            }
            TypedAmounts x = new TypedAmounts();
            Check.type(x, text.toString());
            int got = x.spoken();
            boolean are = WORDS.matcher(text).matches();
            Check.due("spoken of " + text, got != -1, are);
            if (are && got >= 0) {
                Check.due("words of spoken", words(got), text.toString());
            }
        }
    }
}
