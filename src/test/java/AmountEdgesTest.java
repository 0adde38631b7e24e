/** The edges of Term 2 for numbers and money: a method for each sentence. */
public final class AmountEdgesTest {
    public static void main(String[] args) {
        wholeTogether();
        wholeByThree();
        wholeByTwo();
        fraction();
        firstDigit();
        everyWayOfSigns();
        signsBehindThePoint();
        minusOfNumbers();
        minusOfMoney();
        oneBlank();
        blankIsBoth();
        wholeMark();
        values();
        Check.end();
    }

    private static void wholeTogether() {
        Check.sentence("Term 2", "WHOLE: 1 to 9 digits");
        OneLand land = new OneLand();
        land.open(0, "");
        String digits = "123456789";
        for (int many = 1; many <= 9; many++) {
            land.read(0, digits.substring(0, many), Long.parseLong(digits.substring(0, many)) * 1000000);
        }
        land.read(0, "100000000", 100000000000000L);
        land.read(0, "999999999", 999999999000000L);
        land.wrongEnd(0, "1000000000");
        land.wrongEnd(0, "9999999999");
        land.wrong(0, "1234567890.5", 9);
        land.read(0, "123456789.5", 123456789500000L);
        land.wrong(0, ".5", 0);
        land.wrong(0, "-.5", 1);
        land.read(1, "ABC999999999", 999999999000000L);
        land.wrongEnd(1, "ABC9999999999");
        land.wrong(1, "ABC.5", 3);
    }

    private static void wholeByThree() {
        Check.sentence("Term 2", "WHOLE: 1 to 9 digits");
        OneLand land = new OneLand();
        land.read(0, "1,000", 1000000000L);
        land.read(0, "99,999,999", 99999999000000L);
        land.read(0, "100,000,000", 100000000000000L);
        land.read(0, "999,999,999", 999999999000000L);
        land.wrongEnd(0, "999,999,9999");
        land.wrongEnd(0, "999,999,999,");
        land.wrong(0, "1,234,567,890", 9);
        land.wrong(0, "1,000,000,000", 9);
        land.wrong(0, "1234,567", 4);
    }

    private static void wholeByTwo() {
        Check.sentence("Term 2", "WHOLE: 1 to 9 digits");
        OneLand land = new OneLand().grouping(1);
        land.read(0, "1,000", 1000000000L);
        land.read(0, "1,00,00,000", 10000000000000L);
        land.read(0, "10,00,00,000", 100000000000000L);
        land.read(0, "99,99,99,999", 999999999000000L);
        land.wrongEnd(0, "99,99,99,9999");
        land.wrongEnd(0, "99,99,99,999,");
        land.wrongEnd(0, "99,99,99,99,");
        land.wrong(0, "1,23,45,67,890", 10);
        land.open(0, "1,23,45,67");
        land.read(0, "1,23,45,678", 12345678000000L);
    }

    private static void fraction() {
        Check.sentence("Term 2", "A NUMBER of a LAND: WHOLE [POINT 1 to 6 digits].");
        OneLand land = new OneLand();
        land.read(0, "7", 7000000);
        land.open(0, "7.");
        long value = 7000000;
        long unit = 1000000;
        String text = "7.";
        for (int places = 1; places <= 6; places++) {
            unit /= 10;
            value += unit * places;
            text += places;
            land.read(0, text, value);
            land.read(1, "ABC " + text, value);
        }
        land.wrongEnd(0, text + "7");
        land.wrongEnd(0, text + "0");
        land.wrongEnd(1, "ABC" + text + "0");
        land.read(0, "7.000000", 7000000);
        land.read(0, "7.000001", 7000001);
        land.read(0, "7.999999", 7999999);
        land.wrongEnd(0, "7.0000000");
        land.wrongEnd(0, "7..");
        land.wrongEnd(0, "7.5.");
        land.wrongEnd(0, "7.-");
        land.read(0, "0.0", 0);
        land.read(0, "999,999,999.999999", 999999999999999L);
        land.wrongEnd(0, "999,999,999.9999999");
        new OneLand().mark("ABC", true).wrongEnd(1, "7.A");
        new OneLand().mark("ABC", true).wrongEnd(1, "7. ");
        new OneLand().minus(1).wrongEnd(0, "7.-");
        new OneLand().minus(2).wrongEnd(0, "(7.)");
    }

    private static void firstDigit() {
        Check.sentence("Term 2", "the first one no 0 but where it is the only one");
        for (int grouping = 0; grouping < 2; grouping++) {
            OneLand land = new OneLand().grouping(grouping);
            land.read(0, "0", 0);
            land.read(0, "0.5", 500000);
            land.read(0, "10", 10000000);
            for (char second = '0'; second <= '9'; second++) {
                land.wrongEnd(0, "0" + second);
                land.wrongEnd(1, "ABC0" + second);
            }
            land.wrong(0, "00.5", 1);
            land.wrong(0, "01,234", 1);
            land.wrongEnd(0, "0,");
            land.wrong(0, "0,123", 1);
            land.wrong(0, "000,000", 1);
            land.wrong(0, "-01", 2);
            land.read(0, "1,000", 1000000000L);
        }
        new OneLand().signs('.', ' ').mark("ABC", true).open(1, "0 ");
        new OneLand().signs('.', ' ').mark("ABC", true).wrongEnd(1, "0 1");
        new OneLand().signs('.', ' ').wrongEnd(0, "0 ");
        new OneLand().minus(2).wrong(0, "(00)", 2);
    }

    private static String due(int digits, int grouping) {
        StringBuilder text = new StringBuilder("123456789".substring(0, digits));
        for (int at = digits - 3; at > 0; at -= grouping == 0 ? 3 : 2) {
            text.insert(at, ',');
        }
        return text.toString();
    }

    /** Up to nine digits with a sign, or none, at each gap and at both ends: only two ways are READ. */
    private static void everyWayOfSigns() {
        Check.sentence("Term 2",
                "these together, or, with a GROUP sign, if there are more than three, with just the signs that GROUPING tells");
        for (int digits = 1; digits <= 9; digits++) {
            for (int set = 0; set < 1 << digits + 1; set++) {
                StringBuilder text = new StringBuilder((set & 1) != 0 ? "," : "");
                for (int i = 0; i < digits; i++) {
                    text.append((char) ('1' + i)).append((set & 2 << i) != 0 ? "," : "");
                }
                long value = Long.parseLong("123456789".substring(0, digits)) * 1000000;
                for (int grouping = 0; grouping < 2; grouping++) {
                    boolean is = set == 0 || text.toString().equals(due(digits, grouping));
                    long got = new OneLand().grouping(grouping).with(text.toString()).value(0, 0);
                    Check.due("value of " + text + " by grouping " + grouping, got, is ? value : Check.LEAST);
                }
                long got = new OneLand().signs('.', 0).with(text.toString()).value(0, 0);
                Check.due("value of " + text + " without group", got, set == 0 ? value : Check.LEAST);
            }
        }
    }

    private static void signsBehindThePoint() {
        Check.sentence("Term 2", "WHOLE [POINT 1 to 6 digits]");
        new OneLand().wrongEnd(0, "1.234,");
        new OneLand().wrongEnd(0, "1,234.567,");
        new OneLand().read(0, "1,234.567", 1234567000L);
        new OneLand().wrongEnd(0, "1,23.");
        new OneLand().wrongEnd(0, "1,.");
        new OneLand().grouping(1).wrongEnd(0, "12,34.");
    }

    private static boolean isMinus(int minus, String ahead, String behind) {
        return minus == 0 ? ahead.equals("-") && behind.isEmpty()
                : minus == 1 ? ahead.isEmpty() && behind.equals("-") : ahead.equals("(") && behind.equals(")");
    }

    private static void everyMinus(int kind, OneLand land, int minus, String amount) {
        String[] ahead = {"", "-", "(", "--", "((", " ", "- ", "( ", "+"};
        String[] behind = {"", "-", ")", "--", "))", " ", " -", " )", "+"};
        for (String left : ahead) {
            for (String right : behind) {
                long due = isMinus(minus, left, right) ? -5000000 : left.isEmpty() && right.isEmpty() ? 5000000 : Check.LEAST;
                String text = left + amount + right;
                Check.due("value of '" + text + "' by minus " + minus, land.with(text).value(0, kind), due);
            }
        }
    }

    private static void minusOfNumbers() {
        Check.sentence("Term 2", "a NUMBER, or with MINUS: '-' ahead, '-' behind, or '(' ahead and ')' behind");
        for (int minus = 0; minus < 3; minus++) {
            everyMinus(0, new OneLand().minus(minus), minus, "5");
        }
        new OneLand().minus(0).open(0, "-");
        new OneLand().minus(0).wrongEnd(0, "--");
        new OneLand().minus(0).wrongEnd(0, "5-");
        new OneLand().minus(1).wrongEnd(0, "-");
        new OneLand().minus(1).wrongEnd(0, "5--");
        new OneLand().minus(1).wrongEnd(0, "5-0");
        new OneLand().minus(2).open(0, "(");
        new OneLand().minus(2).open(0, "(5");
        new OneLand().minus(2).wrongEnd(0, "()");
        new OneLand().minus(2).wrongEnd(0, "5)");
        new OneLand().minus(2).wrongEnd(0, "(5))");
        new OneLand().minus(2).wrongEnd(0, "(5)0");
    }

    private static void minusOfMoney() {
        Check.sentence("Term 2", "KIND 1, money: a MONEY, or with MINUS alike");
        for (int minus = 0; minus < 3; minus++) {
            for (String blank : new String[] {"", " "}) {
                everyMinus(1, new OneLand().minus(minus), minus, "ABC" + blank + "5");
                everyMinus(1, new OneLand().minus(minus).mark("ABC", true), minus, "5" + blank + "ABC");
            }
        }
        new OneLand().minus(0).wrongEnd(1, "ABC-");
        new OneLand().minus(0).wrongEnd(1, "ABC -");
        new OneLand().minus(1).mark("ABC", true).wrongEnd(1, "5-");
        new OneLand().minus(2).wrongEnd(1, "ABC(");
        new OneLand().minus(2).mark("ABC", true).wrongEnd(1, "(5)");
        new OneLand().minus(2).open(1, "(ABC5");
        new OneLand().minus(2).mark("ABC", true).open(1, "(5 ABC");
    }

    private static void oneBlank() {
        Check.sentence("Term 2", "MARK and NUMBER (or NUMBER and MARK, as it stands), with or without one blank between");
        OneLand ahead = new OneLand();
        ahead.open(1, "ABC");
        ahead.open(1, "ABC ");
        ahead.read(1, "ABC5", 5000000);
        ahead.read(1, "ABC 5", 5000000);
        ahead.wrong(1, "ABC  5", 4);
        ahead.wrong(1, " ABC5", 0);
        ahead.wrongEnd(1, "ABC5 ");
        ahead.wrong(1, "5", 0);
        ahead.wrongEnd(1, "ABC5A");
        OneLand behind = new OneLand().mark("ABC", true);
        behind.open(1, "5");
        behind.open(1, "5 ");
        behind.read(1, "5ABC", 5000000);
        behind.read(1, "5 ABC", 5000000);
        behind.wrong(1, "5  ABC", 2);
        behind.wrong(1, " 5ABC", 0);
        behind.wrongEnd(1, "5ABC ");
        behind.wrongEnd(1, "5ABCA");
        behind.wrong(1, "ABC", 0);
        ahead.wrong(0, "ABC5", 0);
        behind.wrong(0, "5ABC", 1);
    }

    /** Where a blank is the GROUP sign too, one that no digit follows can only stand ahead of the MARK. */
    private static void blankIsBoth() {
        Check.sentence("Term 2", "with or without one blank between");
        OneLand three = new OneLand().signs(',', ' ').mark("ABC", true);
        three.read(1, "1 ABC", 1000000);
        three.read(1, "123 ABC", 123000000);
        three.read(1, "1234 ABC", 1234000000L);
        three.read(1, "1 234 ABC", 1234000000L);
        three.read(1, "999 999 999 ABC", 999999999000000L);
        three.read(1, "999 999 999ABC", 999999999000000L);
        three.open(1, "123 ");
        three.open(1, "1 234 ");
        three.open(1, "1 234 567 ");
        three.wrongEnd(1, "1 234 567 8");
        three.wrongEnd(1, "1234 5");
        three.wrongEnd(1, "1 2 ");
        three.wrongEnd(1, "1 23 ");
        three.wrongEnd(1, "1 23A");
        three.wrongEnd(1, "1  ");
        three.wrongEnd(1, "1,5 2");
        three.open(1, "1,5 ");
        OneLand two = new OneLand().signs(',', ' ').grouping(1).mark("ABC", true);
        two.open(1, "12 34 ");
        two.wrongEnd(1, "12 34 A");
        two.open(1, "12 345 ");
        two.wrongEnd(1, "12 345 6");
        two.read(1, "12 34 56 789 ABC", 123456789000000L);
        two.wrongEnd(1, "12 34 56 78 ");
        two.wrongEnd(1, "12 34 56 789 0");
        two.wrongEnd(1, "123 4");
        two.read(1, "123 ABC", 123000000);
        OneLand ahead = new OneLand().signs(',', ' ');
        ahead.read(1, "ABC 1 234", 1234000000L);
        ahead.open(1, "ABC 1 ");
        ahead.wrongEnd(1, "ABC 1234 ");
        ahead.open(0, "1 ");
        ahead.wrongEnd(0, "1234 ");
    }

    private static void wholeMark() {
        Check.sentence("Term 2", "MONEY: MARK and NUMBER");
        OneLand ahead = new OneLand();
        OneLand behind = new OneLand().mark("ABC", true);
        ahead.open(1, "A");
        ahead.open(1, "AB");
        ahead.wrongEnd(1, "AB5");
        ahead.wrongEnd(1, "ABD");
        ahead.wrongEnd(1, "ABc");
        ahead.wrongEnd(1, "AC");
        ahead.wrongEnd(1, "ABCA");
        ahead.wrongEnd(1, "a");
        behind.open(1, "5A");
        behind.open(1, "5AB");
        behind.wrongEnd(1, "5AC");
        behind.wrongEnd(1, "5ABD");
        behind.wrongEnd(1, "5A ");
        behind.wrongEnd(1, "5a");
    }

    private static void values() {
        Check.sentence("Term 2", "The VALUE of both is in millionths, with MINUS below 0 (or 0).");
        OneLand[] lands = {new OneLand().minus(0), new OneLand().minus(1), new OneLand().minus(2)};
        String[] ahead = {"-", "", "("};
        String[] behind = {"", "-", ")"};
        String[] texts = {"0", "0.0", "0.000000", "0.000001", "1", "999,999,999.999999"};
        long[] values = {0, 0, 0, 1, 1000000, 999999999999999L};
        for (int minus = 0; minus < 3; minus++) {
            for (int i = 0; i < texts.length; i++) {
                lands[minus].read(0, texts[i], values[i]);
                lands[minus].read(0, ahead[minus] + texts[i] + behind[minus], -values[i]);
                lands[minus].read(1, "ABC" + texts[i], values[i]);
                lands[minus].read(1, ahead[minus] + "ABC" + texts[i] + behind[minus], -values[i]);
            }
        }
    }
}
