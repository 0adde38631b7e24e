/** Promises 6 (bounds), 7 (value), 8 (open), 9 (good), 10 (state). */
public final class ReadingTest {
    private static final long L = Check.LEAST;
    private static final int ENGLISH = 0;
    private static final int GERMAN = 1;
    private static final int AMERICAN = 2;
    private static final int INDIAN = 3;
    private static final int SWEDISH = 4;
    private static final int PLAIN = 5;

    public static void main(String[] args) {
        numbers();
        minus();
        money();
        days();
        bounds();
        good();
        state();
        noneSuch();
        bytesThatAreNoSigns();
        Check.end();
    }

    /** The text is READ: it has the value, and is not OPEN. */
    private static void read(int land, int kind, String text, long value) {
        TypedAmounts x = Check.six();
        Check.type(x, text);
        Check.due("value of " + text, x.value(land, kind), value);
        Check.due("open of " + text, x.open(land, kind), false);
        Check.due("good of " + text, x.good(land, kind), text.length());
        Check.due("state of " + text, x.state(1 << land, kind), 0);
    }

    private static void open(int land, int kind, String text) {
        TypedAmounts x = Check.six();
        Check.type(x, text);
        Check.due("value of " + text, x.value(land, kind), L);
        Check.due("open of " + text, x.open(land, kind), true);
        Check.due("good of " + text, x.good(land, kind), text.length());
        Check.due("state of " + text, x.state(1 << land, kind), 1);
    }

    /** Only the first bytes, as many as told, are READ or OPEN. */
    private static void wrong(int land, int kind, String text, int good) {
        TypedAmounts x = Check.six();
        Check.type(x, text);
        Check.due("value of " + text, x.value(land, kind), L);
        Check.due("open of " + text, x.open(land, kind), false);
        Check.due("good of " + text, x.good(land, kind), good);
        Check.due("state of " + text, x.state(1 << land, kind), 3);
    }

    private static void numbers() {
        open(ENGLISH, 0, "");
        read(ENGLISH, 0, "0", 0);
        read(ENGLISH, 0, "7", 7000000);
        read(ENGLISH, 0, "123456789", 123456789000000L);
        wrong(ENGLISH, 0, "1234567890", 9);
        wrong(ENGLISH, 0, "00", 1);
        wrong(ENGLISH, 0, "012", 1);
        wrong(ENGLISH, 0, "0,123", 1);
        open(ENGLISH, 0, "0.");
        read(ENGLISH, 0, "0.5", 500000);
        read(ENGLISH, 0, "0.000001", 1);
        wrong(ENGLISH, 0, "0.0000010", 8);
        wrong(ENGLISH, 0, ".5", 0);
        wrong(ENGLISH, 0, "1.2.3", 3);
        open(ENGLISH, 0, "1,");
        open(ENGLISH, 0, "1,2");
        open(ENGLISH, 0, "1,23");
        read(ENGLISH, 0, "1,234", 1234000000L);
        wrong(ENGLISH, 0, "1,2345", 5);
        wrong(ENGLISH, 0, "1,23.", 4);
        wrong(ENGLISH, 0, "1,23,", 4);
        wrong(ENGLISH, 0, "1,,", 2);
        open(ENGLISH, 0, "1,234.");
        open(ENGLISH, 0, "123,");
        wrong(ENGLISH, 0, "1234,", 4);
        wrong(ENGLISH, 0, "1234,567", 4);
        read(ENGLISH, 0, "1,234,567", 1234567000000L);
        wrong(ENGLISH, 0, "1,234567", 5);
        wrong(ENGLISH, 0, "1,234,567,", 9);
        read(ENGLISH, 0, "999,999,999.999999", 999999999999999L);
        wrong(ENGLISH, 0, "999,999,999,", 11);
        read(GERMAN, 0, "1.234,5", 1234500000L);
        wrong(GERMAN, 0, "1.5-", 3);
        open(GERMAN, 0, "1.5");
        read(INDIAN, 0, "123", 123000000L);
        wrong(INDIAN, 0, "123,", 3);
        read(INDIAN, 0, "1,234", 1234000000L);
        open(INDIAN, 0, "12,34");
        open(INDIAN, 0, "12,34,");
        read(INDIAN, 0, "12,345", 12345000000L);
        wrong(INDIAN, 0, "12,345,", 6);
        read(INDIAN, 0, "1,23,456", 123456000000L);
        wrong(INDIAN, 0, "12,34.", 5);
        wrong(INDIAN, 0, "12,3,", 4);
        read(INDIAN, 0, "12,34,56,789", 123456789000000L);
        open(INDIAN, 0, "12,34,56,78");
        wrong(INDIAN, 0, "12,34,56,78,", 11);
        wrong(INDIAN, 0, "123,456", 3);
        read(INDIAN, 0, "1234567", 1234567000000L);
        read(SWEDISH, 0, "1 234,5", 1234500000L);
        open(SWEDISH, 0, "1 ");
        wrong(SWEDISH, 0, "1234 ", 4);
        wrong(SWEDISH, 0, "1 234 567 ", 9);
        read(PLAIN, 0, "1234567.89", 1234567890000L);
        wrong(PLAIN, 0, "1,234", 1);
    }

    private static void minus() {
        open(ENGLISH, 0, "-");
        read(ENGLISH, 0, "-1", -1000000);
        read(ENGLISH, 0, "-0", 0);
        wrong(ENGLISH, 0, "--", 1);
        wrong(ENGLISH, 0, "1-", 1);
        wrong(ENGLISH, 0, "(1)", 0);
        wrong(ENGLISH, 0, "- 1", 1);
        read(GERMAN, 0, "1-", -1000000);
        read(GERMAN, 0, "1.234,5-", -1234500000L);
        wrong(GERMAN, 0, "1,-", 2);
        wrong(GERMAN, 0, "1.2-", 3);
        wrong(GERMAN, 0, "1--", 2);
        wrong(GERMAN, 0, "-1", 0);
        open(AMERICAN, 0, "(");
        open(AMERICAN, 0, "(1");
        open(AMERICAN, 0, "(1.5");
        read(AMERICAN, 0, "(1.5)", -1500000);
        read(AMERICAN, 0, "(0)", 0);
        wrong(AMERICAN, 0, "1)", 1);
        wrong(AMERICAN, 0, "()", 1);
        wrong(AMERICAN, 0, "(1,2)", 4);
        wrong(AMERICAN, 0, "(1))", 3);
        wrong(AMERICAN, 0, "-1", 0);
    }

    private static void money() {
        open(ENGLISH, 1, "");
        open(ENGLISH, 1, "G");
        open(ENGLISH, 1, "GBP");
        open(ENGLISH, 1, "GBP ");
        wrong(ENGLISH, 1, "GBP  ", 4);
        read(ENGLISH, 1, "GBP 1", 1000000);
        read(ENGLISH, 1, "GBP1,234.5", 1234500000L);
        read(ENGLISH, 1, "-GBP 1", -1000000);
        wrong(ENGLISH, 1, "GBP-1", 3);
        wrong(ENGLISH, 1, "GBP -1", 4);
        wrong(ENGLISH, 1, "1 GBP", 0);
        wrong(ENGLISH, 1, "EUR", 0);
        wrong(ENGLISH, 1, "GB1", 2);
        wrong(ENGLISH, 1, "gbp", 0);
        wrong(ENGLISH, 1, "GBP1 ", 4);
        open(GERMAN, 1, "1");
        open(GERMAN, 1, "1 ");
        open(GERMAN, 1, "1,");
        wrong(GERMAN, 1, "1, ", 2);
        open(GERMAN, 1, "1 E");
        read(GERMAN, 1, "1 EUR", 1000000);
        read(GERMAN, 1, "1EUR", 1000000);
        read(GERMAN, 1, "1 EUR-", -1000000);
        read(GERMAN, 1, "1EUR-", -1000000);
        wrong(GERMAN, 1, "1- EUR", 1);
        wrong(GERMAN, 1, "1  EUR", 2);
        wrong(GERMAN, 1, "1 EUR -", 5);
        wrong(GERMAN, 1, "EUR 1", 0);
        read(AMERICAN, 1, "(USD 1,234)", -1234000000L);
        read(AMERICAN, 1, "(USD0)", 0);
        open(AMERICAN, 1, "(USD 1,234");
        wrong(AMERICAN, 1, "USD(1)", 3);
        wrong(AMERICAN, 1, "USD 1)", 5);
        open(SWEDISH, 1, "1 ");
        open(SWEDISH, 1, "1 2");
        wrong(SWEDISH, 1, "1 2S", 3);
        wrong(SWEDISH, 1, "1 23 ", 4);
        open(SWEDISH, 1, "1 234 ");
        read(SWEDISH, 1, "1 234 SEK", 1234000000L);
        read(SWEDISH, 1, "1 234SEK", 1234000000L);
        open(SWEDISH, 1, "1 234 567 ");
        wrong(SWEDISH, 1, "1 234 567 8", 10);
        open(SWEDISH, 1, "1234 ");
        wrong(SWEDISH, 1, "1234 5", 5);
        open(SWEDISH, 1, "0 ");
        wrong(SWEDISH, 1, "0 1", 2);
        read(SWEDISH, 1, "0 SEK", 0);
        read(SWEDISH, 1, "-1 SEK", -1000000);
        read(SWEDISH, 1, "999 999 999,999999 SEK", 999999999999999L);
        indianBlankGroups();
    }

    /** With a blank as GROUP sign and by two, a blank may be both, one, or neither. */
    private static void indianBlankGroups() {
        TypedAmounts x = new TypedAmounts();
        x.land('.', ' ', 1, 2, Check.mark("ABA"), true, 0, '/');
        String[] open = {"12 34 ", "12 ", "12 345 ", "123 ", "(12 34 567 A", "12 34 56 7", "(12 345 ABA"};
        for (String text : open) {
            Check.type(x, text);
            Check.due("open of " + text, x.open(0, 1), true);
        }
        String[] wrong = {"12 34 A", "12 345 6", "123 4", "12 34 56 78 ", "12 3 "};
        for (String text : wrong) {
            Check.type(x, text);
            Check.due("good of " + text, x.good(0, 1), text.length() - 1);
        }
        Check.type(x, "(12 34 567 ABA)");
        Check.due("value", x.value(0, 1), -1234567000000L);
    }

    private static void days() {
        open(ENGLISH, 2, "");
        read(ENGLISH, 2, "1/1/0001", 0);
        read(ENGLISH, 2, "01/01/0001", 0);
        read(ENGLISH, 2, "2/1/0001", 1);
        read(ENGLISH, 2, "31/12/9999", 3652058);
        read(ENGLISH, 2, "1/1/2000", 730119);
        open(ENGLISH, 2, "0");
        wrong(ENGLISH, 2, "00", 1);
        wrong(ENGLISH, 2, "0/", 1);
        open(ENGLISH, 2, "3");
        open(ENGLISH, 2, "31");
        wrong(ENGLISH, 2, "32", 1);
        open(ENGLISH, 2, "4");
        wrong(ENGLISH, 2, "40", 1);
        open(ENGLISH, 2, "31/0");
        open(ENGLISH, 2, "31/1");
        wrong(ENGLISH, 2, "31/2", 3);
        wrong(ENGLISH, 2, "31/4", 3);
        wrong(ENGLISH, 2, "31/11", 4);
        wrong(ENGLISH, 2, "30/02", 4);
        wrong(ENGLISH, 2, "1/13", 3);
        wrong(ENGLISH, 2, "1/00", 3);
        wrong(ENGLISH, 2, "1/0/", 3);
        open(ENGLISH, 2, "29/2");
        open(ENGLISH, 2, "29/2/190");
        wrong(ENGLISH, 2, "29/2/1900", 8);
        wrong(ENGLISH, 2, "29/2/2001", 8);
        read(ENGLISH, 2, "29/2/2000", 730178);
        open(ENGLISH, 2, "29/2/000");
        wrong(ENGLISH, 2, "1/1/0000", 7);
        open(ENGLISH, 2, "1/1/000");
        open(ENGLISH, 2, "1/1/99");
        wrong(ENGLISH, 2, "1/1/99/", 6);
        wrong(ENGLISH, 2, "1/1/19999", 8);
        wrong(ENGLISH, 2, "001/1", 1);
        wrong(ENGLISH, 2, "1//", 2);
        wrong(ENGLISH, 2, "1-1", 1);
        wrong(ENGLISH, 2, "-1/1/2000", 0);
        wrong(AMERICAN, 2, "2/30", 3);
        open(AMERICAN, 2, "2/3");
        open(AMERICAN, 2, "2/29");
        wrong(AMERICAN, 2, "2/29/1999", 8);
        wrong(AMERICAN, 2, "13", 1);
        read(AMERICAN, 2, "12/31/0001", 364);
        open(SWEDISH, 2, "000");
        wrong(SWEDISH, 2, "0000", 3);
        wrong(SWEDISH, 2, "199-", 3);
        open(SWEDISH, 2, "1999-");
        open(SWEDISH, 2, "1999-2");
        open(SWEDISH, 2, "1999-2-0");
        wrong(SWEDISH, 2, "1999-2-00", 8);
        read(SWEDISH, 2, "1999-2-2", 729786);
        wrong(SWEDISH, 2, "1999-2-29", 8);
        read(SWEDISH, 2, "2000-02-29", 730178);
        wrong(SWEDISH, 2, "1900-02-29", 9);
        wrong(SWEDISH, 2, "2000-2-2-", 8);
        read(SWEDISH, 2, "9999-12-31", 3652058);
        read(INDIAN, 2, "29-02-0004", 365 * 3 + 31 + 28);
        read(GERMAN, 2, "1.2.0001", 31);
    }

    private static void bounds() {
        TypedAmounts x = Check.six();
        Check.due("kind -1", x.bounds(-1, 0, 1), false);
        Check.due("kind 3", x.bounds(3, 0, 1), false);
        Check.due("least above greatest", x.bounds(0, 6, 5), false);
        Check.type(x, "5");
        Check.due("refused bounds change nothing", x.value(0, 0), 5000000);
        Check.due("bounds", x.bounds(0, 5000000, 5000000), true);
        Check.due("just within", x.value(0, 0), 5000000);
        Check.due("refused later", x.bounds(0, 1, 0), false);
        Check.due("still within", x.value(0, 0), 5000000);
        Check.due("bounds", x.bounds(0, 5000001, 9000000), true);
        Check.due("below", x.value(0, 0), L);
        Check.due("below is not open", x.open(0, 0), false);
        Check.due("below is good", x.good(0, 0), 1);
        Check.due("below, state", x.state(1, 0), 1);
        Check.due("bounds", x.bounds(0, Long.MIN_VALUE, 4999999), true);
        Check.due("above", x.value(0, 0), L);
        Check.type(x, "GBP5");
        Check.due("money has its own", x.value(0, 1), 5000000);
        Check.due("bounds", x.bounds(1, 0, 1), true);
        Check.due("money out of bounds", x.value(0, 1), L);
        Check.type(x, "1/1/0002");
        Check.due("days have their own", x.value(0, 2), 365);
        Check.due("bounds", x.bounds(2, 366, 400), true);
        Check.due("day out of bounds", x.value(0, 2), L);
        Check.type(x, "2/1/0002");
        Check.due("day within", x.value(0, 2), 366);
        Check.due("all again", x.bounds(0, Long.MIN_VALUE, Long.MAX_VALUE), true);
        Check.type(x, "5");
        Check.due("all again", x.value(0, 0), 5000000);
    }

    private static void good() {
        TypedAmounts x = Check.six();
        x.bounds(0, 7, 7);
        Check.type(x, "1,234,5x");
        Check.due("good", x.good(0, 0), 7);
        Check.due("good of another land", x.good(1, 0), 5);
        Check.due("good of another kind", x.good(0, 1), 0);
        Check.type(x, "123456789012345678901234567890123456789012345678901234567890");
        Check.due("good of 60", x.good(0, 0), 9);
        Check.type(x, "");
        Check.due("good of none", x.good(0, 0), 0);
    }

    private static void state() {
        TypedAmounts x = Check.six();
        Check.type(x, "1,234");
        Check.due("one land", x.state(1, 0), 0);
        Check.due("alike", x.state(1 | 1 << AMERICAN | 1 << INDIAN, 0), 0);
        Check.due("doubt", x.state(1 | 1 << GERMAN, 0), 2);
        Check.due("doubt of all", x.state(-1, 0), 2);
        Check.due("a wrong one leaves it sure", x.state(1 | 1 << PLAIN, 0), 0);
        Check.due("only a wrong one", x.state(1 << PLAIN, 0), 3);
        Check.due("no lands", x.state(0, 0), 3);
        Check.due("lands that are none", x.state(0xffffffc0, 0), 3);
        x.bounds(0, 0, 100000000);
        Check.due("bounds end the doubt", x.state(1 | 1 << GERMAN, 0), 0);
        Check.due("out of bounds", x.state(1, 0), 1);
        Check.due("out of bounds and wrong", x.state(1 | 1 << PLAIN, 0), 1);
        x.bounds(0, 7, 7);
        Check.due("all out of bounds", x.state(1 | 1 << GERMAN, 0), 1);
        x.bounds(0, 0, 1234000000L);
        Check.type(x, "1,23");
        Check.due("open by one, sure by one", x.state(1 | 1 << GERMAN, 0), 0);
        Check.due("open", x.state(1, 0), 1);
        Check.due("open and wrong", x.state(1 | 1 << PLAIN, 0), 1);
        Check.type(x, "2/3/2000");
        Check.due("days in doubt", x.state(1 | 1 << AMERICAN, 2), 2);
        Check.type(x, "3/3/2000");
        Check.due("days alike", x.state(1 | 1 << AMERICAN, 2), 0);
        Check.type(x, "13/3/2000");
        Check.due("days sure", x.state(1 | 1 << AMERICAN, 2), 0);
        Check.due("days wrong", x.state(1 << AMERICAN, 2), 3);
        Check.due("kind -1", x.state(1, -1), -1);
        Check.due("kind 3", x.state(1, 3), -1);
    }

    private static void noneSuch() {
        TypedAmounts x = new TypedAmounts();
        Check.english(x);
        int[][] none = {{-1, 0}, {1, 0}, {6, 0}, {0, -1}, {0, 3}, {Integer.MIN_VALUE, Integer.MAX_VALUE}};
        for (int[] pair : none) {
            Check.due("open of none such", x.open(pair[0], pair[1]), false);
            Check.due("good of none such", x.good(pair[0], pair[1]), -1);
        }
        Check.type(x, "1");
        for (int[] pair : none) {
            Check.due("value of none such", x.value(pair[0], pair[1]), L);
        }
    }

    /** Bytes 0 and 255 must not be taken for the lack of a sign. */
    private static void bytesThatAreNoSigns() {
        TypedAmounts x = Check.six();
        for (int sign = 0; sign < 256; sign++) {
            boolean digit = sign >= '0' && sign <= '9';
            Check.type(x, "1");
            x.key(sign);
            boolean good = digit || sign == '.';
            Check.due("plain, sign " + sign, x.good(PLAIN, 0), good || sign == '-' ? 2 : 1);
            Check.due("english, sign " + sign, x.good(ENGLISH, 0), good || sign == ',' ? 2 : 1);
            Check.due("american, sign " + sign, x.good(AMERICAN, 0), good || sign == ',' ? 2 : 1);
            Check.type(x, "");
            x.key(sign);
            Check.due("german, sign " + sign, x.good(GERMAN, 0), digit ? 1 : 0);
            if (sign % 16 == 15) {
                x = Check.six();
            }
        }
    }
}
