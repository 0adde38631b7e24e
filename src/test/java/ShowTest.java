/** Promises 11 (show), 13 (shown), 14 (take), 16 (other). */
public final class ShowTest {
    private static final long L = Check.LEAST;
    private static final long TOP = 999999999999999L;

    public static void main(String[] args) {
        amounts();
        rounding();
        days();
        refused();
        shown();
        take();
        other();
        Check.end();
    }

    private static void is(int land, int kind, long value, int n, String want) {
        TypedAmounts x = Check.six();
        int bytes = x.show(land, kind, value, n);
        Check.due("show of " + value, Check.display(x), want);
        Check.due("bytes of " + want, bytes, want.length());
    }

    private static void amounts() {
        is(0, 0, 1234567890000L, 2, "1,234,567.89");
        is(1, 0, 1234567890000L, 2, "1.234.567,89");
        is(3, 0, 1234567890000L, 2, "12,34,567.89");
        is(4, 0, 1234567890000L, 2, "1 234 567,89");
        is(5, 0, 1234567890000L, 2, "1234567.89");
        is(3, 0, 123456789000000L, 0, "12,34,56,789");
        is(3, 0, 12345678000000L, 0, "1,23,45,678");
        is(3, 0, 123456000000L, 0, "1,23,456");
        is(3, 0, 12345000000L, 0, "12,345");
        is(3, 0, 1234000000L, 0, "1,234");
        is(3, 0, 123000000L, 0, "123");
        is(0, 0, 0, 0, "0");
        is(0, 0, 0, 3, "0.000");
        is(0, 0, 1, 6, "0.000001");
        is(0, 0, 999000000L, 0, "999");
        is(0, 0, 1000000000L, 0, "1,000");
        is(0, 0, TOP, 6, "999,999,999.999999");
        is(0, 0, -TOP, 6, "-999,999,999.999999");
        is(1, 0, -1500000, 1, "1,5-");
        is(2, 0, -1500000, 1, "(1.5)");
        is(0, 1, 1500000, 2, "GBP1.50");
        is(0, 1, -1500000, 2, "-GBP1.50");
        is(1, 1, 1500000, 2, "1,50 EUR");
        is(1, 1, -1500000, 2, "1,50 EUR-");
        is(2, 1, -1234500000L, 2, "(USD1,234.50)");
        is(4, 1, -1234500000L, 2, "-1 234,50 SEK");
        TypedAmounts x = new TypedAmounts();
        x.land(',', '\'', 1, 2, Check.mark("ABC"), true, 0, '/');
        x.show(0, 1, -1234567000000L, 1);
        Check.due("brackets and mark behind", Check.display(x), "(12'34'567,0 ABC)");
    }

    private static void rounding() {
        is(0, 0, 1500000, 0, "2");
        is(0, 0, 2500000, 0, "3");
        is(0, 0, 2499999, 0, "2");
        is(0, 0, -2500000, 0, "-3");
        is(0, 0, -2499999, 0, "-2");
        is(0, 0, -499999, 0, "0");
        is(0, 0, -500000, 0, "-1");
        is(2, 0, -4, 5, "0.00000");
        is(2, 0, -5, 5, "(0.00001)");
        is(0, 0, 999999, 5, "1.00000");
        is(0, 0, 999999500000L, 0, "1,000,000");
        is(0, 0, 1234565, 5, "1.23457");
        is(0, 0, 1234545, 4, "1.2345");
        is(0, 0, 999999999499999L, 0, "999,999,999");
        is(0, 0, -999999999499999L, 0, "-999,999,999");
    }

    private static void days() {
        is(0, 2, 0, 0, "01/01/0001");
        is(1, 2, 3652058, 99, "31.12.9999");
        is(2, 2, 730178, -1, "02/29/2000");
        is(3, 2, 730179, Integer.MIN_VALUE, "01-03-2000");
        is(4, 2, 730119, 0, "2000-01-01");
        is(4, 2, 365 * 4, 0, "0004-12-31");
        is(4, 2, 365 * 4 + 1, 0, "0005-01-01");
        is(4, 2, 146096, 0, "0400-12-31");
        is(4, 2, 146097, 0, "0401-01-01");
        is(4, 2, 36523, 0, "0100-12-31");
        is(4, 2, 36524, 0, "0101-01-01");
    }

    private static void none(int land, int kind, long value, int n) {
        TypedAmounts x = Check.six();
        x.words(7);
        String what = land + " " + kind + " " + value + " " + n;
        Check.due("show of " + what, x.show(land, kind, value, n), -1);
        Check.due("what was SHOWN stays, " + what, Check.display(x), "seven");
        Check.due("other of " + what, x.other(land, 0, kind, value, n), L);
    }

    private static void refused() {
        none(-1, 0, 1, 0);
        none(6, 0, 1, 0);
        none(0, -1, 1, 0);
        none(0, 3, 1, 0);
        none(0, 0, 1, -1);
        none(0, 0, 1, 7);
        none(0, 1, 1, -1);
        none(0, 1, 1, 7);
        for (int kind = 0; kind < 2; kind++) {
            none(0, kind, TOP + 1, 6);
            none(0, kind, -TOP - 1, 6);
            none(0, kind, Long.MAX_VALUE, 6);
            none(0, kind, Long.MIN_VALUE, 6);
            none(0, kind, Long.MIN_VALUE, 0);
            for (int n = 0; n < 6; n++) {
                none(0, kind, TOP, n);
                none(0, kind, -TOP, n);
            }
            none(0, kind, 999999999500000L, 0);
            none(0, kind, -999999999500000L, 0);
        }
        none(0, 2, -1, 0);
        none(0, 2, 3652059, 0);
        none(0, 2, 1L << 32, 0);
        none(0, 2, Long.MIN_VALUE, 0);
        none(0, 2, Long.MAX_VALUE, 0);
    }

    private static void shown() {
        TypedAmounts x = Check.six();
        x.show(0, 0, 1500000, 1);
        Check.due("byte 0", x.shown(0), '1');
        Check.due("byte 1", x.shown(1), '.');
        Check.due("byte 2", x.shown(2), '5');
        Check.due("byte 3", x.shown(3), -1);
        Check.due("byte -1", x.shown(-1), -1);
        Check.due("byte greatest", x.shown(Integer.MAX_VALUE), -1);
        x.show(0, 0, 7000000, 0);
        Check.due("a shorter one", x.shown(0), '7');
        Check.due("nothing of the longer one", x.shown(1), -1);
    }

    private static void take() {
        TypedAmounts x = Check.six();
        Check.type(x, "9");
        Check.due("nothing to take", x.take(), -1);
        Check.due("the line stays", x.value(0, 0), 9000000);
        x.show(0, 1, -1500000, 2);
        Check.due("take", x.take(), 8);
        Check.due("the line is it", x.value(0, 1), -1500000);
        Check.due("bytes", x.count(1), 8);
        Check.due("it is still SHOWN", Check.display(x), "-GBP1.50");
        x.key('1');
        Check.due("the line alone grows", x.count(3), 8);
        Check.due("take again", x.take(), 8);
        Check.due("words of many bytes", x.words(111373317), 87);
        Check.due("too many", x.take(), -1);
        Check.due("61 bytes of words", x.words(223373), 61);
        Check.due("one too many", x.take(), -1);
        Check.due("the line stays", x.value(0, 1), -1500000);
        Check.due("60 bytes of words", x.words(223323), 60);
        Check.due("just not too many", x.take(), 60);
        Check.due("all of the line", x.spoken(), 223323);
    }

    private static void other() {
        TypedAmounts x = Check.six();
        x.words(1);
        Check.due("itself", x.other(0, 0, 0, 1234500000L, 2), 1234500000L);
        Check.due("point as group", x.other(0, 1, 0, 1234000L, 3), 1234000000L);
        Check.due("group as point", x.other(0, 1, 0, 1234000000L, 0), 1234000L);
        Check.due("not read", x.other(0, 1, 0, 1234500000L, 2), L);
        Check.due("rounded", x.other(0, 0, 0, 1234567, 2), 1230000L);
        Check.due("minus not read", x.other(0, 1, 0, -1000000, 0), L);
        Check.due("minus rounded away", x.other(0, 1, 0, -1, 0), 0);
        Check.due("another mark", x.other(0, 2, 1, 1000000, 0), L);
        Check.due("money", x.other(1, 1, 1, -1000000, 3), -1000000);
        Check.due("days", x.other(0, 2, 2, 1, 0), 31);
        Check.due("day that is none", x.other(0, 2, 2, 12, 0), L);
        Check.due("no land a", x.other(6, 0, 0, 1, 0), L);
        Check.due("no land b", x.other(0, 6, 0, 1, 0), L);
        Check.due("no land b below 0", x.other(0, -1, 0, 1, 0), L);
        Check.due("no kind", x.other(0, 0, 3, 1, 0), L);
        x.bounds(0, 5, 6);
        Check.due("bounds are not asked", x.other(0, 0, 0, 1000000, 0), 1000000);
        Check.due("what was SHOWN stays", Check.display(x), "one");
        Check.due("the line stays", x.count(1), 0);
    }
}
