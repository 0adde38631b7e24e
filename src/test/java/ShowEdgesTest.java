/** The edges of Term 3 and of Promises 11 (show), 13 (shown), 14 (take), 16 (other): a method for each sentence. */
public final class ShowEdgesTest {
    private static final long L = Check.LEAST;
    private static final long TOP = 999999999999999L;
    /** What the last digit that is SHOWN is worth, with 0 .. 6 of them behind the POINT. */
    private static final long[] UNITS = {1000000, 100000, 10000, 1000, 100, 10, 1};
    private static final int[] NO_KINDS = {-1, 3, 4, 256, Integer.MAX_VALUE, Integer.MIN_VALUE};

    public static void main(String[] args) {
        digitsBehindThePoint();
        halvesAwayFromZero();
        groupSigns();
        groupSignsByTwo();
        markAndBlank();
        minusAsRounded();
        daysOfTwoDigits();
        nCountsForNothing();
        noSuchLand();
        noSuchKind();
        noSuchN();
        aboveAndBelow();
        alsoAsRounded();
        noDay();
        bytesShown();
        shownLast();
        takeSixty();
        takeNothing();
        takeLeavesItShown();
        otherReadsNot();
        otherOfNoneSuch();
        otherAsksNoBounds();
        otherLeavesWhatWasShown();
        Check.end();
    }

    private static void digitsBehindThePoint() {
        Check.sentence("Term 3", "with n digits behind the POINT, 0 .. 6 (none and no POINT for 0)");
        String[] due = {"1", "1.2", "1.23", "1.234", "1.2341", "1.23412", "1.234123"};
        String[] zero = {"0", "0.0", "0.00", "0.000", "0.0000", "0.00000", "0.000000"};
        for (int n = 0; n <= 6; n++) {
            new OneLand().shows(0, 1234123, n, due[n]);
            new OneLand().shows(1, 1234123, n, "ABC" + due[n]);
            new OneLand().shows(0, 0, n, zero[n]);
            new OneLand().signs(',', '.').shows(0, 1234123, n, due[n].replace('.', ','));
        }
    }

    private static String plain(long value, int n) {
        String digits = String.valueOf(value);
        while (digits.length() < 7) {
            digits = "0" + digits;
        }
        int whole = digits.length() - 6;
        return digits.substring(0, whole) + (n == 0 ? "" : "." + digits.substring(whole, whole + n));
    }

    private static void halvesAwayFromZero() {
        Check.sentence("Term 3", "rounded to these, halves away from 0");
        OneLand land = new OneLand().signs('.', 0);
        for (int n = 0; n < 6; n++) {
            long unit = UNITS[n];
            // The digit that stays is even, then odd, then a 9 that carries.
            for (long stays : new long[] {2 * unit, 3 * unit, 9 * unit, 99 * unit}) {
                land.shows(0, stays, n, plain(stays, n));
                land.shows(0, stays + unit / 2 - 1, n, plain(stays, n));
                land.shows(0, stays + unit / 2, n, plain(stays + unit, n));
                land.shows(0, stays + unit - 1, n, plain(stays + unit, n));
                land.shows(0, -stays, n, "-" + plain(stays, n));
                land.shows(0, -stays - unit / 2 + 1, n, "-" + plain(stays, n));
                land.shows(0, -stays - unit / 2, n, "-" + plain(stays + unit, n));
                land.shows(0, -stays - unit + 1, n, "-" + plain(stays + unit, n));
            }
        }
        land.shows(0, 1234565, 6, "1.234565");
        land.shows(0, 1444445, 0, "1");
        land.shows(0, 1499999, 0, "1");
        land.shows(0, 999999999499999L, 0, "999999999");
    }

    private static void groupSigns() {
        Check.sentence("Term 3", "WHOLE with GROUP signs if there is one");
        String[] due = {"1", "12", "123", "1,234", "12,345", "123,456", "1,234,567", "12,345,678", "123,456,789"};
        for (String text : due) {
            long value = Long.parseLong(text.replace(",", "")) * 1000000;
            new OneLand().shows(0, value, 0, text);
            new OneLand().shows(0, value + 123456, 6, text + ".123456");
            new OneLand().signs('.', '\'').shows(0, value, 0, text.replace(',', '\''));
            new OneLand().signs('.', ' ').shows(1, value, 0, "ABC" + text.replace(',', ' '));
            new OneLand().signs('.', 0).shows(0, value, 0, text.replace(",", ""));
            new OneLand().signs('.', 0).grouping(1).shows(0, value, 0, text.replace(",", ""));
        }
        new OneLand().shows(0, 999000000L, 0, "999");
        new OneLand().shows(0, 999500000L, 0, "1,000");
        new OneLand().shows(0, 999999500000L, 0, "1,000,000");
    }

    private static void groupSignsByTwo() {
        Check.sentence("Term 1", "1 the last three, ahead of these by two (12,34,567)");
        String[] due = {"1", "12", "123", "1,234", "12,345", "1,23,456", "12,34,567", "1,23,45,678", "12,34,56,789"};
        for (String text : due) {
            long value = Long.parseLong(text.replace(",", "")) * 1000000;
            new OneLand().grouping(1).shows(0, value, 0, text);
            new OneLand().grouping(1).shows(0, -value - 500000, 1, "-" + text + ".5");
        }
    }

    private static void markAndBlank() {
        Check.sentence("Term 3", "MARK right ahead of it, or behind with a blank between");
        for (int n = 0; n <= 6; n++) {
            new OneLand().shows(1, 5000000, n, "ABC" + plain(5000000, n));
            new OneLand().mark("ABC", true).shows(1, 5000000, n, plain(5000000, n) + " ABC");
            new OneLand().mark("ABC", true).shows(0, 5000000, n, plain(5000000, n));
        }
    }

    private static void minusAsRounded() {
        Check.sentence("Term 3", "MINUS if it is below 0 as rounded");
        String[] ahead = {"-", "", "("};
        String[] behind = {"", "-", ")"};
        for (int minus = 0; minus < 3; minus++) {
            for (int n = 0; n <= 6; n++) {
                OneLand land = new OneLand().minus(minus);
                long least = n == 6 ? 1 : UNITS[n] / 2;
                land.shows(0, -least, n, ahead[minus] + plain(UNITS[n], n) + behind[minus]);
                land.shows(1, -least, n, ahead[minus] + "ABC" + plain(UNITS[n], n) + behind[minus]);
                land.shows(0, -least + 1, n, plain(0, n));
                land.shows(1, -least + 1, n, "ABC" + plain(0, n));
                land.shows(0, least, n, plain(UNITS[n], n));
                land.shows(0, 0, n, plain(0, n));
            }
        }
    }

    private static void daysOfTwoDigits() {
        Check.sentence("Term 3", "As KIND 2: day and month with two digits, the year with four");
        int[] signs = {'/', '.', '-'};
        for (int sign : signs) {
            String s = String.valueOf((char) sign);
            new OneLand().days(0, sign).shows(2, 0, 0, "01" + s + "01" + s + "0001");
            new OneLand().days(1, sign).shows(2, 3652058, 0, "12" + s + "31" + s + "9999");
            new OneLand().days(2, sign).shows(2, 730178, 0, "2000" + s + "02" + s + "29");
        }
        new OneLand().shows(2, 8, 0, "09/01/0001");
        new OneLand().shows(2, 9, 0, "10/01/0001");
        new OneLand().shows(2, 272, 0, "30/09/0001");
        new OneLand().shows(2, 273, 0, "01/10/0001");
        new OneLand().shows(2, 364, 0, "31/12/0001");
        new OneLand().shows(2, 365, 0, "01/01/0002");
        new OneLand().shows(2, 3 * 365 + 58, 0, "28/02/0004");
        new OneLand().shows(2, 3 * 365 + 59, 0, "29/02/0004");
        new OneLand().shows(2, 3 * 365 + 60, 0, "01/03/0004");
        new OneLand().shows(2, 4 * 365, 0, "31/12/0004");
        new OneLand().shows(2, 36523, 0, "31/12/0100");
        new OneLand().shows(2, 36524, 0, "01/01/0101");
        new OneLand().shows(2, 73047, 0, "31/12/0200");
        new OneLand().shows(2, 73048, 0, "01/01/0201");
        new OneLand().shows(2, 109571, 0, "31/12/0300");
        new OneLand().shows(2, 109572, 0, "01/01/0301");
        new OneLand().shows(2, 146096, 0, "31/12/0400");
        new OneLand().shows(2, 146097, 0, "01/01/0401");
        new OneLand().shows(2, 364876, 0, "31/12/0999");
        new OneLand().shows(2, 364877, 0, "01/01/1000");
    }

    private static void nCountsForNothing() {
        Check.sentence("Term 3", "(n counts for nothing)");
        for (int n : new int[] {Integer.MIN_VALUE, -1, 0, 6, 7, Integer.MAX_VALUE}) {
            new OneLand().shows(2, 0, n, "01/01/0001");
            Check.due("other with n " + n, new OneLand().made().other(0, 0, 2, 5, n), 5);
        }
    }

    private static void noSuchLand() {
        Check.sentence("Promise 11", "NONE: no such LAND");
        for (int lands = 0; lands <= 6; lands++) {
            TypedAmounts x = new TypedAmounts();
            for (int i = 0; i < lands; i++) {
                new OneLand().addTo(x);
            }
            for (int kind = 0; kind < 3; kind++) {
                for (int land : new int[] {-1, lands - 1, lands, 6, Integer.MAX_VALUE, Integer.MIN_VALUE}) {
                    boolean is = land >= 0 && land < lands;
                    int bytes = kind == 0 ? 1 : kind == 1 ? 4 : 10;
                    Check.due("show by land " + land + " of " + lands, x.show(land, kind, 0, 0), is ? bytes : -1);
                }
            }
        }
    }

    private static void noSuchKind() {
        Check.sentence("Promise 11", "NONE: no such LAND, KIND, n (KIND 0, 1)");
        for (int kind : NO_KINDS) {
            new OneLand().showsNone(kind, 0, 0);
        }
        new OneLand().shows(0, 0, 0, "0");
        new OneLand().shows(1, 0, 0, "ABC0");
        new OneLand().shows(2, 0, 0, "01/01/0001");
    }

    private static void noSuchN() {
        Check.sentence("Promise 11", "n (KIND 0, 1)");
        for (int kind = 0; kind < 2; kind++) {
            for (int n : new int[] {Integer.MIN_VALUE, -7, -1, 7, 8, 256, Integer.MAX_VALUE}) {
                new OneLand().showsNone(kind, 1000000, n);
            }
            new OneLand().shows(kind, 1000000, 0, kind == 0 ? "1" : "ABC1");
            new OneLand().shows(kind, 1000000, 6, kind == 0 ? "1.000000" : "ABC1.000000");
        }
    }

    private static void aboveAndBelow() {
        Check.sentence("Promise 11", "it is above 999999999999999 or below less that (KIND 0, 1");
        for (int kind = 0; kind < 2; kind++) {
            String mark = kind == 0 ? "" : "ABC";
            new OneLand().shows(kind, TOP, 6, mark + "999,999,999.999999");
            new OneLand().shows(kind, -TOP, 6, "-" + mark + "999,999,999.999999");
            for (long value : new long[] {TOP + 1, TOP + 2, 1L << 62, Long.MAX_VALUE}) {
                for (int n = 0; n <= 6; n++) {
                    new OneLand().showsNone(kind, value, n);
                    new OneLand().showsNone(kind, -value, n);
                    new OneLand().showsNone(kind, Long.MIN_VALUE, n);
                    new OneLand().showsNone(kind, Long.MIN_VALUE + 1, n);
                }
            }
        }
    }

    private static void alsoAsRounded() {
        Check.sentence("Promise 11", "(KIND 0, 1; also as rounded)");
        for (int n = 0; n < 6; n++) {
            // The greatest that is rounded down, and the least that is rounded up to 1000000000.
            long last = TOP - UNITS[n] / 2;
            String due = plain(TOP / UNITS[n] * UNITS[n], n);
            for (int kind = 0; kind < 2; kind++) {
                String mark = kind == 0 ? "" : "ABC";
                new OneLand().signs('.', 0).shows(kind, last, n, mark + due);
                new OneLand().signs('.', 0).shows(kind, -last, n, "-" + mark + due);
                new OneLand().showsNone(kind, last + 1, n);
                new OneLand().showsNone(kind, -last - 1, n);
                new OneLand().showsNone(kind, TOP, n);
                new OneLand().showsNone(kind, -TOP, n);
            }
        }
    }

    private static void noDay() {
        Check.sentence("Promise 11", "or no day (KIND 2)");
        new OneLand().shows(2, 0, 0, "01/01/0001");
        new OneLand().shows(2, 1, 0, "02/01/0001");
        new OneLand().shows(2, 3652057, 0, "30/12/9999");
        new OneLand().shows(2, 3652058, 0, "31/12/9999");
        for (long value : new long[] {-1, 3652059, 3652060, 1L << 31, 1L << 32, (1L << 32) + 5, Long.MAX_VALUE, Long.MIN_VALUE}) {
            new OneLand().showsNone(2, value, 0);
        }
    }

    private static void bytesShown() {
        Check.sentence("Promise 13", "NONE if there is none such.");
        TypedAmounts x = new OneLand().made();
        for (int k : new int[] {Integer.MIN_VALUE, -1, 0, 1, Integer.MAX_VALUE}) {
            Check.due("byte " + k + " of nothing", x.shown(k), -1);
        }
        x.words(373373373);
        Check.due("the first of 100", x.shown(0), 't');
        Check.due("the last of 100", x.shown(99), 'e');
        Check.due("one behind", x.shown(100), -1);
        Check.due("one ahead", x.shown(-1), -1);
        x.show(0, 0, 0, 0);
        Check.due("the only one", x.shown(0), '0');
        Check.due("one behind it", x.shown(1), -1);
        Check.due("the greatest", x.shown(Integer.MAX_VALUE), -1);
        Check.due("the least", x.shown(Integer.MIN_VALUE), -1);
    }

    private static void shownLast() {
        Check.sentence("Promise 13", "Byte k of what was SHOWN last.");
        TypedAmounts x = new OneLand().made();
        x.words(5);
        Check.due("words", Check.display(x), "five");
        x.show(0, 1, -1500000, 1);
        Check.due("money", Check.display(x), "-ABC1.5");
        x.show(0, 2, 0, 0);
        Check.due("a day", Check.display(x), "01/01/0001");
        x.words(0);
        Check.due("words again", Check.display(x), "zero");
        Check.due("refused words", x.words(-1), -1);
        Check.due("refused show", x.show(0, 0, TOP + 1, 0), -1);
        x.other(0, 0, 0, 1, 0);
        x.spoken();
        x.key('1');
        x.row();
        x.clear();
        Check.due("all others leave it", Check.display(x), "zero");
    }

    private static void takeSixty() {
        Check.sentence("Promise 14", "NONE: they are more than 60");
        int[] numbers = {223323, 223373, 373373373, 223923};
        int[] bytes = {60, 61, 100, 59};
        for (int i = 0; i < numbers.length; i++) {
            TypedAmounts x = new OneLand().with("12");
            Check.due("bytes of " + numbers[i], x.words(numbers[i]), bytes[i]);
            boolean can = bytes[i] <= 60;
            Check.due("take of " + bytes[i], x.take(), can ? bytes[i] : -1);
            Check.due("bytes of the line", x.count(1), can ? bytes[i] : 2);
            Check.due("the line", x.value(0, 0), can ? L : 12000000);
            Check.due("spoken", x.spoken(), can ? numbers[i] : -1);
            Check.due("what is SHOWN stays", x.count(3), bytes[i]);
        }
    }

    private static void takeNothing() {
        Check.sentence("Promise 14", "or nothing is");
        TypedAmounts x = new OneLand().with("12");
        x.image(0);
        Check.due("take", x.take(), -1);
        Check.due("the line stays", x.value(0, 0), 12000000);
        Check.due("refused show", x.show(0, 0, 0, 7), -1);
        Check.due("take", x.take(), -1);
        x.other(0, 0, 0, 0, 0);
        Check.due("take behind other", x.take(), -1);
        x.spoken();
        Check.due("take behind spoken", x.take(), -1);
        x.show(0, 0, 0, 0);
        Check.due("take of one byte", x.take(), 1);
        x.again(0);
        Check.due("nothing is again", x.take(), -1);
        Check.due("the line stays", x.value(0, 0), 12000000);
    }

    private static void takeLeavesItShown() {
        Check.sentence("Promise 14", "What is SHOWN becomes THE LINE: how many bytes.");
        TypedAmounts x = new OneLand().with("1234567");
        x.show(0, 0, -1500000, 1);
        Check.due("take", x.take(), 4);
        Check.due("all of the line", x.value(0, 0), -1500000);
        Check.due("bytes", x.count(1), 4);
        x.undo(4);
        Check.due("SHOWN", Check.display(x), "-1.5");
        Check.due("take again", x.take(), 4);
        Check.due("the line again", x.value(0, 0), -1500000);
    }

    private static TypedAmounts pair() {
        TypedAmounts x = new OneLand().made();
        new OneLand().signs(',', '.').minus(2).mark("ABD", false).days(1, '/').addTo(x);
        return x;
    }

    private static void otherReadsNot() {
        Check.sentence("Promise 16", "The least long: b reads it not");
        TypedAmounts x = pair();
        Check.due("three places are a group", x.other(0, 1, 0, 1234000, 3), 1234000000L);
        Check.due("two are not", x.other(0, 1, 0, 1234000, 2), L);
        Check.due("four are not", x.other(0, 1, 0, 1234000, 4), L);
        Check.due("no places", x.other(0, 1, 0, 999000000, 0), 999000000);
        Check.due("a group is three places", x.other(0, 1, 0, 999999000000L, 0), 999999000);
        Check.due("two groups are none", x.other(0, 1, 0, 1000000000000L, 0), L);
        Check.due("below 0", x.other(0, 1, 0, -1000000, 0), L);
        Check.due("0 as rounded", x.other(0, 1, 0, -499999, 0), 0);
        Check.due("another mark", x.other(0, 1, 1, 1000000, 0), L);
        Check.due("day 12 as a month", x.other(0, 1, 2, 11, 0), 334);
        Check.due("day 13 is no month", x.other(0, 1, 2, 12, 0), L);
        Check.due("itself", x.other(0, 0, 0, TOP, 6), TOP);
        Check.due("itself below 0", x.other(1, 1, 0, -TOP, 6), -TOP);
        Check.due("rounded", x.other(0, 0, 0, 1500000, 0), 2000000);
        Check.due("the last day", x.other(1, 0, 2, 3652058, 0), L);
        Check.due("the last day by itself", x.other(1, 1, 2, 3652058, 0), 3652058);
    }

    private static void otherOfNoneSuch() {
        Check.sentence("Promise 16", "or show() would tell NONE");
        TypedAmounts x = pair();
        for (int land : new int[] {-1, 2, 6, Integer.MAX_VALUE, Integer.MIN_VALUE}) {
            for (int kind = 0; kind < 3; kind++) {
                Check.due("a is " + land, x.other(land, 0, kind, 0, 0), L);
                Check.due("b is " + land, x.other(0, land, kind, 0, 0), L);
            }
        }
        for (int kind : NO_KINDS) {
            Check.due("kind " + kind, x.other(0, 0, kind, 0, 0), L);
        }
        for (int kind = 0; kind < 2; kind++) {
            Check.due("n -1", x.other(0, 0, kind, 0, -1), L);
            Check.due("n 7", x.other(0, 0, kind, 0, 7), L);
            Check.due("n 6", x.other(0, 0, kind, 7, 6), 7);
            Check.due("too great", x.other(0, 0, kind, TOP + 1, 6), L);
            Check.due("too small", x.other(0, 0, kind, -TOP - 1, 6), L);
            Check.due("too great as rounded", x.other(0, 0, kind, TOP, 5), L);
        }
        Check.due("no day", x.other(0, 0, 2, -1, 0), L);
        Check.due("no day", x.other(0, 0, 2, 3652059, 0), L);
        Check.due("without lands", new TypedAmounts().other(0, 0, 0, 0, 0), L);
    }

    private static void otherAsksNoBounds() {
        Check.sentence("Promise 16", "(BOUNDS not asked; what was SHOWN stays)");
        for (int kind = 0; kind < 3; kind++) {
            TypedAmounts x = pair();
            x.bounds(kind, -9, -9);
            Check.due("kind " + kind, x.other(0, 0, kind, 1000000, 0), 1000000);
        }
    }

    private static void otherLeavesWhatWasShown() {
        Check.sentence("Promise 16", "what was SHOWN stays");
        TypedAmounts x = pair();
        x.other(0, 0, 0, 1000000, 0);
        Check.due("nothing is SHOWN still", x.count(3), 0);
        x.words(12);
        Check.add(x, "34");
        x.other(0, 1, 0, 1234000, 3);
        x.other(0, 1, 0, 1234000, 2);
        x.other(0, 1, 0, 1234000, 7);
        x.other(0, 0, 2, 0, 0);
        Check.due("SHOWN", Check.display(x), "twelve");
        Check.due("the line", x.value(0, 0), 34000000);
    }
}
