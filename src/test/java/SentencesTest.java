import java.util.Random;

/**
 * The sentences of the document that name no boundary, a method for each: 'What it is', the
 * constant, what Terms 1 to 3 begin with, and what Promises 4, 7 to 12 and 16 answer in the plain case.
 */
public final class SentencesTest {
    private static final long L = Check.LEAST;
    private static final int ENGLISH = 0;
    private static final int GERMAN = 1;
    private static final int AMERICAN = 2;
    private static final int INDIAN = 3;
    private static final int SWEDISH = 4;
    private static final int PLAIN = 5;

    public static void main(String[] args) {
        letterByLetter();
        allReadings();
        fromWhichOnNothingCan();
        shownAndReadByAnother();
        pastedRows();
        wordsBothWays();
        laterCalls();
        none();
        landsHave();
        aNumber();
        aDayByOrder();
        bySetOfLands();
        amountShown();
        keysAnswer();
        value();
        open();
        openHasANextByte();
        good();
        state();
        show();
        words();
        other();
        Check.end();
    }

    private static TypedAmounts with(String text) {
        TypedAmounts x = Check.six();
        Check.add(x, text);
        return x;
    }

    /** What a LAND and KIND tell behind each letter: r READ, o OPEN, - neither. */
    private static void told(int land, int kind, String text, String want) {
        TypedAmounts x = Check.six();
        StringBuilder got = new StringBuilder();
        for (int i = 0; i < text.length(); i++) {
            x.key(text.charAt(i));
            got.append(x.value(land, kind) != L ? 'r' : x.open(land, kind) ? 'o' : '-');
        }
        Check.due("letters of " + text, got.toString(), want);
    }

    private static void letterByLetter() {
        Check.sentence("What it is",
                "Amounts as people of several lands type them: numbers, money and days read letter by letter");
        told(ENGLISH, 0, "-1,234.50", "orooororr");
        told(GERMAN, 0, "1.234,5-", "rooororr");
        told(AMERICAN, 0, "(12.5)", "ooooor");
        told(INDIAN, 0, "12,34,567", "rroooooor");
        told(ENGLISH, 1, "GBP 1.5x", "ooooror-");
        told(SWEDISH, 1, "1 234 SEK", "oooooooor");
        told(ENGLISH, 2, "31/12/1999", "ooooooooor");
        told(SWEDISH, 2, "1999-12-31", "oooooooorr");
        told(ENGLISH, 2, "31/2/1999", "ooo------");
    }

    private static void allReadings() {
        Check.sentence("What it is", "all readings of all lands within a field's bounds");
        TypedAmounts x = with("1,234");
        long[] all = {1234000000L, 1234000, 1234000000L, 1234000000L, 1234000, L};
        for (int land = 0; land < 6; land++) {
            Check.due("1,234 by " + land, x.value(land, 0), all[land]);
        }
        x.bounds(0, 0, 1000000000);
        long[] within = {L, 1234000, L, L, 1234000, L};
        for (int land = 0; land < 6; land++) {
            Check.due("1,234 within bounds by " + land, x.value(land, 0), within[land]);
        }
        Check.due("state", x.state(63, 0), 0);
    }

    private static void fromWhichOnNothingCan() {
        Check.sentence("What it is", "what could still become one and the letter from which on nothing can");
        TypedAmounts x = with("1.23");
        Check.due("1.23 could become 1.234", x.open(GERMAN, 0), true);
        Check.due("it is one already", x.open(ENGLISH, 0), false);
        x.key(',');
        Check.due("the letter from which on nothing can, german", x.good(GERMAN, 0), 4);
        Check.due("english", x.good(ENGLISH, 0), 4);
        Check.due("swedish", x.good(SWEDISH, 0), 1);
        Check.due("as a day", x.good(GERMAN, 2), 3);
    }

    private static void shownAndReadByAnother() {
        Check.sentence("What it is", "what is shown by a land, and how another land would read it");
        TypedAmounts x = Check.six();
        Check.due("bytes", x.show(ENGLISH, 0, 1234000, 3), 5);
        Check.due("shown", Check.display(x), "1.234");
        Check.due("german", x.other(ENGLISH, GERMAN, 0, 1234000, 3), 1234000000L);
        Check.due("american", x.other(ENGLISH, AMERICAN, 0, 1234000, 3), 1234000);
        Check.due("swedish", x.other(ENGLISH, SWEDISH, 0, 1234000, 3), L);
        Check.due("3 April is 4 March", x.other(ENGLISH, AMERICAN, 2, 92, 0), 62);
    }

    private static void pastedRows() {
        Check.sentence("What it is", "pasted rows that one land must fit");
        TypedAmounts x = Check.six();
        String[] rows = {"1,234", "0,5", "12"};
        int[] fits = {0b011111, 0b010010, 0b010010};
        for (int i = 0; i < rows.length; i++) {
            Check.add(x, rows[i]);
            Check.due("row " + i, x.row(), i);
            Check.due("lands that fit up to row " + i, x.fit(0), fits[i]);
        }
        Check.due("english stops at", x.misfit(ENGLISH, 0), 1);
        Check.due("plain stops at", x.misfit(PLAIN, 0), 0);
        Check.due("german stops nowhere", x.misfit(GERMAN, 0), -1);
        Check.due("sum", x.sum(GERMAN, 0), 13734000);
    }

    private static void wordsBothWays() {
        Check.sentence("What it is", "numbers in words, both ways.");
        TypedAmounts x = new TypedAmounts();
        Check.due("bytes", x.words(1234), 36);
        Check.due("words", Check.display(x), "one thousand two hundred thirty four");
        Check.due("take", x.take(), 36);
        Check.due("spoken", x.spoken(), 1234);
    }

    /** Free as they are, they must end and not throw (LANGUAGE.md, rule 7). */
    private static void laterCalls() {
        Check.sentence("What it is", "An object is used for at most 512 calls after it has been made; what later calls answer is free.");
        TypedAmounts x = Check.six();
        int calls = 6;
        for (int round = 0; round < 400; round++) {
            x.keys('1' << 24 | ',' << 16 | '2' << 8);
            x.show(round % 6, round % 3, round * 1000L, round % 7);
            x.take();
            x.fit(round % 3);
            x.row();
            x.image(round % 3);
            x.words(round * 1000003);
            x.state(63, round % 3);
            x.again((round + 1) % 3);
            x.land('.', ',', 0, 0, Check.mark("ABC"), false, 0, '/');
            calls += 10;
        }
        Check.due("calls that ended", calls, 4006);
    }

    private static void none() {
        Check.sentence("The constants", "`NONE = -1`: There is none.");
        Check.due("NONE", TypedAmounts.NONE, -1);
        TypedAmounts x = new TypedAmounts();
        int[] got = {x.land(0, 0, 0, 0, 0, false, 0, 0), x.key(256), x.undo(1), x.good(0, 0), x.state(0, 3), x.show(0, 0, 0, 0),
            x.words(-1), x.shown(0), x.take(), x.spoken(), x.fit(3), x.misfit(0, 0), x.count(4)};
        for (int i = 0; i < got.length; i++) {
            Check.due("call " + i, got[i], TypedAmounts.NONE);
        }
    }

    /** Two lands of one object that differ in one thing alone: each keeps its own. */
    private static void landsHave() {
        Check.sentence("Term 1", "LANDS, at most 6, from 0 on, have: a POINT");
        OneLand first = new OneLand().signs('.', ' ');
        differ(first, new OneLand().signs(',', ' '), 0, "1 234.5", "1 234,5");
        differ(first, new OneLand().signs('.', '\''), 0, "1 234.5", "1'234.5");
        differ(first, new OneLand().signs('.', ' ').minus(1), 0, "-1 234.5", "1 234.5-");
        differ(first, new OneLand().signs('.', ' ').minus(2), 0, "-1 234.5", "(1 234.5)");
        differ(first, new OneLand().signs('.', ' ').mark("ABD", false), 1, "ABC1 234.5", "ABD1 234.5");
        differ(first, new OneLand().signs('.', ' ').mark("ABC", true), 1, "ABC1 234.5", "1 234.5 ABC");
        differ(first, new OneLand().signs('.', ' ').grouping(1), 0, "123 456.5", "1 23 456.5");
        differ(first, new OneLand().days(2, '/'), 2, "31/12/0001", "0001/12/31");
        differ(first, new OneLand().days(1, '/'), 2, "31/12/0001", "12/31/0001");
        differ(first, new OneLand().days(0, '-'), 2, "31/12/0001", "31-12-0001");
    }

    private static void differ(OneLand first, OneLand second, int kind, String ofFirst, String ofSecond) {
        TypedAmounts x = new TypedAmounts();
        Check.due("first land", first.addTo(x), 0);
        Check.due("second land", second.addTo(x), 1);
        Check.type(x, ofFirst);
        long value = x.value(0, kind);
        Check.due(ofFirst + " is READ by the first", value != L, true);
        Check.due(ofFirst + " by the second", x.value(1, kind), L);
        x.show(1, kind, value, 1);
        Check.due("shown by the second", Check.display(x), ofSecond);
        Check.type(x, ofSecond);
        Check.due(ofSecond + " by the second", x.value(1, kind), value);
        Check.due(ofSecond + " by the first", x.value(0, kind), L);
        x.show(0, kind, value, 1);
        Check.due("shown by the first", Check.display(x), ofFirst);
    }

    private static void aNumber() {
        Check.sentence("Term 2", "KIND 0, a number: a NUMBER, or with MINUS");
        new OneLand().read(0, "1,234.5", 1234500000L);
        new OneLand().read(0, "-1,234.5", -1234500000L);
        new OneLand().wrong(1, "1,234.5", 0);
        new OneLand().wrong(2, "1,234.5", 1);
        new OneLand().wrong(0, "ABC1", 0);
        new OneLand().wrong(0, "1/1/0001", 1);
    }

    private static void aDayByOrder() {
        Check.sentence("Term 2", "KIND 2, a day: three groups of digits, a DAY SIGN between each two, by ORDER: "
                + "a day and a month of one or two digits, a year of four");
        new OneLand().days(0, '/').read(2, "3/4/0001", 92);
        new OneLand().days(1, '/').read(2, "3/4/0001", 62);
        new OneLand().days(2, '/').read(2, "0001/3/4", 62);
        new OneLand().days(0, '/').wrong(2, "2001/3/4", 2);
        new OneLand().days(1, '/').wrong(2, "13/4/0001", 1);
        new OneLand().days(2, '/').wrong(2, "3/4/0001", 1);
        new OneLand().days(0, '/').wrong(0, "3/4/0001", 1);
    }

    private static void bySetOfLands() {
        Check.sentence("Term 2", "By a set of LANDS it is, for a KIND: 0 SURE: VALUES that count are there, and all alike; "
                + "2 in DOUBT: they are not alike; if there is none: 1 OPEN");
        TypedAmounts x = with("1,234");
        Check.due("english and american", x.state(1 << ENGLISH | 1 << AMERICAN, 0), 0);
        Check.due("english and german", x.state(1 << ENGLISH | 1 << GERMAN, 0), 2);
        Check.due("a VALUE that counts beside one that is WRONG", x.state(1 << GERMAN | 1 << PLAIN, 0), 0);
        Check.due("WRONG alone", x.state(1 << PLAIN, 0), 3);
        x.undo(1);
        Check.due("a VALUE that counts beside one that is OPEN", x.state(1 << ENGLISH | 1 << GERMAN, 0), 0);
        Check.due("OPEN beside WRONG", x.state(1 << ENGLISH | 1 << PLAIN, 0), 1);
        x.bounds(0, 0, 0);
        Check.due("READ out of BOUNDS beside WRONG", x.state(1 << GERMAN | 1 << PLAIN, 0), 1);
        x.bounds(0, 1230000, 1230000);
        Check.due("OPEN as money, where the MARK is behind", x.state(63, 1), 1);
        Check.due("WRONG as a day", x.state(63, 2), 3);
        Check.due("within narrow BOUNDS", x.state(63, 0), 0);
    }

    private static void amountShown() {
        Check.sentence("Term 3", "SHOWN by a LAND, a VALUE as KIND 0 or 1 with n digits behind the POINT, 0 .. 6");
        String[] numbers = {"-1,234.57", "1.234,57-", "(1,234.57)", "-1,234.57", "-1 234,57", "1234.57-"};
        String[] moneys = {"-GBP1,234.57", "1.234,57 EUR-", "(USD1,234.57)", "-INR1,234.57", "-1 234,57 SEK", "CHF1234.57-"};
        for (int land = 0; land < 6; land++) {
            TypedAmounts x = Check.six();
            x.show(land, 0, -1234567000L, 2);
            Check.due("number by " + land, Check.display(x), numbers[land]);
            x.show(land, 1, -1234567000L, 2);
            Check.due("money by " + land, Check.display(x), moneys[land]);
        }
    }

    private static void keysAnswer() {
        Check.sentence("Promise 4", "ahead of the first that is 0: how many it has.");
        TypedAmounts x = new OneLand().made();
        Check.due("four", x.keys('1' << 24 | '2' << 16 | '3' << 8 | '4'), 4);
        Check.due("two more", x.keys('5' << 24 | '6' << 16), 6);
        Check.due("none more", x.keys(0), 6);
        Check.due("those ahead of the 0", x.keys('.' << 24 | '7' << 16 | '8'), 8);
        Check.due("one by key", x.key('9'), 9);
        Check.due("in their order", x.value(0, 0), 123456790000L);
    }

    private static void value() {
        Check.sentence("Promise 7", "VALUE of THE LINE as READ by a LAND, if it counts.");
        String[] lines = {"-1,234.5", "GBP 0.000001", "1/2/2000"};
        long[] values = {-1234500000L, 1, 730150};
        for (int kind = 0; kind < 3; kind++) {
            TypedAmounts x = with(lines[kind]);
            Check.due("value of " + lines[kind], x.value(ENGLISH, kind), values[kind]);
            Check.due("asked again", x.value(ENGLISH, kind), values[kind]);
            x.bounds(kind, values[kind] + 1, Long.MAX_VALUE);
            Check.due("out of bounds", x.value(ENGLISH, kind), L);
            x.undo(x.count(1));
            Check.due("of an empty line", x.value(ENGLISH, kind), L);
        }
    }

    private static void open() {
        Check.sentence("Promise 8", "Whether THE LINE is OPEN for a LAND and KIND.");
        TypedAmounts x = with("1.");
        boolean[][] due = {{true, false, false}, {true, true, true}, {true, false, false}, {true, false, false},
            {false, false, false}, {true, false, true}};
        for (int land = 0; land < 6; land++) {
            for (int kind = 0; kind < 3; kind++) {
                Check.due("1. by " + land + " as " + kind, x.open(land, kind), due[land][kind]);
            }
        }
    }

    /** Typed on from nothing by any byte that stays good, an OPEN line always has such a byte, and is READ in the end. */
    private static void openHasANextByte() {
        Check.sentence("Term 2", "It is OPEN for a LAND and KIND if it is not READ, and, with some bytes more, could be");
        Random random = new Random(39);
        OneLand[] lands = {new OneLand(), new OneLand().grouping(1).minus(2), new OneLand().signs(',', ' ').mark("AAB", true).minus(1),
            new OneLand().signs('.', ' ').grouping(1).mark("ABA", true).days(1, '.'), new OneLand().signs(',', 0).days(2, '-')};
        for (OneLand land : lands) {
            for (int walk = 0; walk < 30; walk++) {
                typeOn(land, walk % 3, random);
            }
        }
    }

    private static void typeOn(OneLand land, int kind, Random random) {
        String text = "";
        boolean read = false;
        for (int bytes = 0; bytes < 40; bytes++) {
            String next = goodBytes(land, kind, text);
            boolean open = land.with(text).open(0, kind);
            read = land.with(text).value(0, kind) != L;
            Check.due("'" + text + "' as " + kind + " is READ, or else OPEN", open, !read);
            Check.due("a byte may come behind '" + text + "' as " + kind, next.isEmpty() && open, false);
            if (next.isEmpty()) {
                break;
            }
            text += next.charAt(random.nextInt(next.length()));
        }
        Check.due("'" + text + "' as " + kind + ", behind which none may come, is READ", read, true);
    }

    private static String goodBytes(OneLand land, int kind, String text) {
        StringBuilder good = new StringBuilder();
        TypedAmounts x = land.with(text);
        for (int sign = 0; sign < 256; sign++) {
            if (sign % 128 == 0) {
                x = land.with(text);
            }
            x.key(sign);
            if (x.good(0, kind) == text.length() + 1) {
                good.append((char) sign);
            }
            x.undo(1);
        }
        return good.toString();
    }

    private static void good() {
        Check.sentence("Promise 9",
                "How many bytes of THE LINE, from the first on, are the most that are READ, or OPEN, by a LAND as a KIND");
        TypedAmounts x = with("12.34,5 EUR");
        int[][] due = {{5, 0, 2}, {5, 5, 4}, {5, 0, 2}, {5, 0, 2}, {2, 2, 2}, {5, 0, 4}};
        for (int land = 0; land < 6; land++) {
            for (int kind = 0; kind < 3; kind++) {
                Check.due("good of 12.34,5 EUR by " + land + " as " + kind, x.good(land, kind), due[land][kind]);
            }
        }
    }

    private static void state() {
        Check.sentence("Promise 10", "How THE LINE is by a set of LANDS (bits; those that are none count for nothing) for a KIND: "
                + "0 SURE, 1 OPEN, 2 in DOUBT, 3 WRONG.");
        TypedAmounts x = with("1.234");
        Check.due("english", x.state(1 << ENGLISH, 0), 0);
        Check.due("all", x.state(63, 0), 2);
        Check.due("swedish", x.state(1 << SWEDISH, 0), 3);
        Check.due("german money", x.state(1 << GERMAN, 1), 1);
        Check.due("none", x.state(0, 0), 3);
        Check.due("lands that are none", x.state(~63, 0), 3);
        Check.due("english and lands that are none", x.state(~63 | 1 << ENGLISH, 0), 0);
    }

    private static void show() {
        Check.sentence("Promise 11", "A VALUE is SHOWN: how many bytes that has.");
        TypedAmounts x = Check.six();
        Check.due("number", x.show(GERMAN, 0, 1234500000L, 2), 8);
        Check.due("shown", Check.display(x), "1.234,50");
        Check.due("money in its place", x.show(AMERICAN, 1, -500000, 1), 8);
        Check.due("shown", Check.display(x), "(USD0.5)");
        Check.due("a day in its place", x.show(INDIAN, 2, 365, 0), 10);
        Check.due("shown", Check.display(x), "01-01-0002");
        Check.due("count", x.count(3), 10);
    }

    private static void words() {
        Check.sentence("Promise 12", "WORDS of a whole number are SHOWN: how many bytes.");
        TypedAmounts x = new TypedAmounts();
        Check.due("zero", x.words(0), 4);
        Check.due("shown", Check.display(x), "zero");
        Check.due("longer in its place", x.words(512), 19);
        Check.due("shown", Check.display(x), "five hundred twelve");
        Check.due("shorter in its place", x.words(6), 3);
        Check.due("shown", Check.display(x), "six");
        Check.due("count", x.count(3), 3);
    }

    private static void other() {
        Check.sentence("Promise 16", "VALUE that LAND b reads of what LAND a shows of a VALUE as a KIND");
        TypedAmounts x = Check.six();
        long[] values = {-1234567L, -1234567L, 729999L};
        for (int kind = 0; kind < 3; kind++) {
            for (int a = 0; a < 6; a++) {
                for (int b = 0; b < 6; b++) {
                    TypedAmounts alike = Check.six();
                    alike.show(a, kind, values[kind], 3);
                    alike.take();
                    Check.due("what " + a + " shows, read by " + b + " as " + kind,
                            x.other(a, b, kind, values[kind], 3), alike.value(b, kind));
                }
            }
        }
    }
}
