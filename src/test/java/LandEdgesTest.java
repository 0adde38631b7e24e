/** The edges of Term 1 and of Promise 2 (land): a method for each sentence. */
public final class LandEdgesTest {
    private static final int ABC = Check.mark("ABC");

    public static void main(String[] args) {
        fromZeroOn();
        atMostSix();
        numbersOfLands();
        refusedLandIsNone();
        points();
        groups();
        groupIsNotThePoint();
        noGroup();
        groupings();
        minuses();
        marks();
        markIsThreeBytes();
        firstByteHighest();
        aheadOrBehind();
        orders();
        daySigns();
        Check.end();
    }

    private static void fromZeroOn() {
        Check.sentence("Term 1", "LANDS, at most 6, from 0 on");
        TypedAmounts x = new TypedAmounts();
        for (int i = 0; i < 6; i++) {
            Check.due("lands ahead of land " + i, x.count(0), i);
            Check.due("land " + i, new OneLand().addTo(x), i);
        }
    }

    private static void atMostSix() {
        Check.sentence("Promise 2", "NONE: there are 6");
        TypedAmounts x = new TypedAmounts();
        for (int i = 0; i < 6; i++) {
            new OneLand().addTo(x);
        }
        for (int i = 0; i < 3; i++) {
            Check.due("one land more", new OneLand().addTo(x), -1);
            Check.due("lands", x.count(0), 6);
        }
    }

    /** With each number of lands: the last one is there, the next one is none. */
    private static void numbersOfLands() {
        Check.sentence("Promise 2", "A LAND: its number.");
        for (int lands = 0; lands <= 6; lands++) {
            TypedAmounts x = new TypedAmounts();
            for (int i = 0; i < lands; i++) {
                new OneLand().mark("AB" + (char) ('A' + i), false).addTo(x);
            }
            for (int i = 0; i < lands; i++) {
                Check.type(x, "AB" + (char) ('A' + i) + "7");
                for (int by = -1; by <= 6; by++) {
                    Check.due("money of land " + i + " by " + by, x.value(by, 1), by == i ? 7000000 : Check.LEAST);
                }
            }
        }
    }

    private static void refusedLandIsNone() {
        Check.sentence("Promise 2", "NONE: there are 6, or something can't be.");
        TypedAmounts x = new TypedAmounts();
        Check.due("a land that can't be", x.land(';', ',', 0, 0, ABC, false, 0, '/'), -1);
        Check.due("lands", x.count(0), 0);
        Check.due("value by none", x.open(0, 0), false);
        Check.due("the next one that can be", new OneLand().addTo(x), 0);
        Check.due("another that can't", x.land('.', ',', 2, 0, ABC, false, 0, '/'), -1);
        Check.due("the next one that can be", new OneLand().addTo(x), 1);
        for (int i = 2; i < 5; i++) {
            new OneLand().addTo(x);
        }
        Check.due("one that can't at five", x.land('.', ',', 0, 3, ABC, false, 0, '/'), -1);
        Check.due("the sixth", new OneLand().addTo(x), 5);
    }

    private static int[] manyNumbers(int... more) {
        int[] numbers = new int[260 + 4 * more.length];
        for (int i = 0; i < 256; i++) {
            numbers[i] = i;
        }
        numbers[256] = -1;
        numbers[257] = 256;
        numbers[258] = Integer.MAX_VALUE;
        numbers[259] = Integer.MIN_VALUE;
        for (int i = 0; i < more.length; i++) {
            numbers[260 + 4 * i] = more[i] | 256;
            numbers[261 + 4 * i] = more[i] | 65536;
            numbers[262 + 4 * i] = more[i] | Integer.MIN_VALUE;
            numbers[263 + 4 * i] = -more[i];
        }
        return numbers;
    }

    private static void points() {
        Check.sentence("Term 1", "a POINT, ',' or '.'");
        for (int point : manyNumbers(',', '.')) {
            int got = new TypedAmounts().land(point, 0, 0, 0, ABC, false, 0, '/');
            Check.due("point " + point, got, point == ',' || point == '.' ? 0 : -1);
        }
        new OneLand().signs('.', 0).read(0, "1.5", 1500000);
        new OneLand().signs('.', 0).wrong(0, "1,5", 1);
        new OneLand().signs(',', 0).read(0, "1,5", 1500000);
        new OneLand().signs(',', 0).wrong(0, "1.5", 1);
    }

    private static void groups() {
        Check.sentence("Term 1", "a GROUP sign: ',' or '.' (not the POINT), a blank, ' (39), or none");
        for (int group : manyNumbers(',', '.', ' ', '\'')) {
            boolean either = group == ' ' || group == 39 || group == 0;
            int byPoint = new TypedAmounts().land('.', group, 0, 0, ABC, false, 0, '/');
            Check.due("group " + group + " with .", byPoint, either || group == ',' ? 0 : -1);
            int byComma = new TypedAmounts().land(',', group, 0, 0, ABC, false, 0, '/');
            Check.due("group " + group + " with ,", byComma, either || group == '.' ? 0 : -1);
        }
        String signs = ",. '";
        for (int i = 0; i < signs.length(); i++) {
            char sign = signs.charAt(i);
            OneLand land = new OneLand().signs(sign == '.' ? ',' : '.', sign);
            land.read(0, "1" + sign + "234", 1234000000L);
            land.shows(0, 1234000000L, 0, "1" + sign + "234");
        }
    }

    private static void groupIsNotThePoint() {
        Check.sentence("Term 1", "(not the POINT)");
        Check.due("both ,", new OneLand().signs(',', ',').addTo(new TypedAmounts()), -1);
        Check.due("both .", new OneLand().signs('.', '.').addTo(new TypedAmounts()), -1);
        Check.due(", and .", new OneLand().signs(',', '.').addTo(new TypedAmounts()), 0);
        Check.due(". and ,", new OneLand().signs('.', ',').addTo(new TypedAmounts()), 0);
    }

    private static void noGroup() {
        Check.sentence("Promise 2", "group 0: no GROUP sign");
        OneLand land = new OneLand().signs('.', 0);
        land.read(0, "1234", 1234000000L);
        land.shows(0, 1234567000000L, 0, "1234567");
        for (String sign : new String[] {",", "'", " ", "\u0000"}) {
            land.wrong(0, "1" + sign + "234", 1);
        }
        land.grouping(1).shows(0, 1234567000000L, 0, "1234567");
        land.wrong(0, "1,234", 1);
    }

    private static void groupings() {
        Check.sentence("Term 1", "a GROUPING: 0 by three (1,234,567), 1 the last three, ahead of these by two (12,34,567)");
        for (int grouping : new int[] {Integer.MIN_VALUE, -1, 0, 1, 2, 3, 256, Integer.MAX_VALUE}) {
            int due = grouping == 0 || grouping == 1 ? 0 : -1;
            Check.due("grouping " + grouping, new OneLand().grouping(grouping).addTo(new TypedAmounts()), due);
        }
        new OneLand().grouping(0).read(0, "1,234,567", 1234567000000L);
        new OneLand().grouping(0).wrong(0, "12,34,567", 5);
        new OneLand().grouping(1).read(0, "12,34,567", 1234567000000L);
        new OneLand().grouping(1).wrong(0, "1,234,567", 5);
    }

    private static void minuses() {
        Check.sentence("Term 1", "a MINUS: 0 ahead ( - ), 1 behind ( - ), 2 brackets");
        for (int minus : new int[] {Integer.MIN_VALUE, -1, 0, 1, 2, 3, 256, Integer.MAX_VALUE}) {
            int due = minus >= 0 && minus <= 2 ? 0 : -1;
            Check.due("minus " + minus, new OneLand().minus(minus).addTo(new TypedAmounts()), due);
        }
        new OneLand().minus(0).read(0, "-5", -5000000);
        new OneLand().minus(1).read(0, "5-", -5000000);
        new OneLand().minus(2).read(0, "(5)", -5000000);
    }

    private static void marks() {
        Check.sentence("Term 1", "a MARK for money: three letters A .. Z");
        for (int place = 0; place < 3; place++) {
            int shift = 16 - 8 * place;
            for (int sign = 0; sign < 256; sign++) {
                int mark = ABC & ~(255 << shift) | sign << shift;
                int got = new TypedAmounts().land('.', ',', 0, 0, mark, false, 0, '/');
                Check.due("byte " + place + " of the mark is " + sign, got, sign >= 'A' && sign <= 'Z' ? 0 : -1);
            }
        }
        new OneLand().mark("AAA", false).read(1, "AAA1", 1000000);
        new OneLand().mark("ZZZ", false).read(1, "ZZZ1", 1000000);
        new OneLand().mark("AZA", true).shows(1, 1000000, 0, "1 AZA");
    }

    private static void markIsThreeBytes() {
        Check.sentence("Promise 2", "mark: three bytes");
        int[] highest = {1, 'A', 127, 128, 255};
        for (int sign : highest) {
            int got = new TypedAmounts().land('.', ',', 0, 0, sign << 24 | ABC, false, 0, '/');
            Check.due("a fourth byte " + sign, got, -1);
        }
        Check.due("two bytes", new TypedAmounts().land('.', ',', 0, 0, ABC & 0xffff, false, 0, '/'), -1);
        Check.due("no byte", new TypedAmounts().land('.', ',', 0, 0, 0, false, 0, '/'), -1);
        Check.due("two and a 0", new TypedAmounts().land('.', ',', 0, 0, ABC & 0xffff00, false, 0, '/'), -1);
        Check.due("-1", new TypedAmounts().land('.', ',', 0, 0, -1, false, 0, '/'), -1);
        Check.due("the least int", new TypedAmounts().land('.', ',', 0, 0, Integer.MIN_VALUE, false, 0, '/'), -1);
    }

    private static void firstByteHighest() {
        Check.sentence("Promise 2", "the first one highest");
        TypedAmounts x = new TypedAmounts();
        x.land('.', ',', 0, 0, 'X' << 16 | 'Y' << 8 | 'Z', false, 0, '/');
        x.show(0, 1, 1000000, 0);
        Check.due("shown", Check.display(x), "XYZ1");
        Check.type(x, "XYZ2");
        Check.due("value", x.value(0, 1), 2000000);
        Check.type(x, "ZYX2");
        Check.due("the other way round", x.value(0, 1), Check.LEAST);
    }

    private static void aheadOrBehind() {
        Check.sentence("Term 1", "whether it stands ahead or behind");
        new OneLand().mark("ABC", false).read(1, "ABC1", 1000000);
        new OneLand().mark("ABC", false).wrong(1, "1ABC", 0);
        new OneLand().mark("ABC", true).read(1, "1ABC", 1000000);
        new OneLand().mark("ABC", true).wrong(1, "ABC1", 0);
        for (int behind = 0; behind < 2; behind++) {
            for (int minus = 0; minus < 3; minus++) {
                OneLand land = new OneLand().minus(minus).mark("ABC", behind == 1);
                String money = behind == 1 ? "1 ABC" : "ABC1";
                land.shows(1, 1000000, 0, money);
                land.shows(1, -1000000, 0, minus == 0 ? "-" + money : minus == 1 ? money + "-" : "(" + money + ")");
            }
        }
    }

    private static void orders() {
        Check.sentence("Term 1", "an ORDER of days: 0 day month year, 1 month day year, 2 year month day");
        for (int order : new int[] {Integer.MIN_VALUE, -1, 0, 1, 2, 3, 256, Integer.MAX_VALUE}) {
            int due = order >= 0 && order <= 2 ? 0 : -1;
            Check.due("order " + order, new OneLand().days(order, '/').addTo(new TypedAmounts()), due);
        }
        new OneLand().days(0, '/').read(2, "2/1/0001", 1);
        new OneLand().days(1, '/').read(2, "2/1/0001", 31);
        new OneLand().days(2, '/').read(2, "0001/2/1", 31);
        new OneLand().days(0, '/').shows(2, 31, 0, "01/02/0001");
        new OneLand().days(1, '/').shows(2, 31, 0, "02/01/0001");
        new OneLand().days(2, '/').shows(2, 31, 0, "0001/02/01");
    }

    private static void daySigns() {
        Check.sentence("Term 1", "a DAY SIGN: '/', '.' or '-'");
        for (int sign : manyNumbers('/', '.', '-')) {
            int due = sign == '/' || sign == '.' || sign == '-' ? 0 : -1;
            Check.due("day sign " + sign, new OneLand().days(0, sign).addTo(new TypedAmounts()), due);
        }
        String signs = "/.-";
        for (int i = 0; i < 3; i++) {
            for (int k = 0; k < 3; k++) {
                OneLand land = new OneLand().days(0, signs.charAt(i));
                String text = "1" + signs.charAt(k) + "1" + signs.charAt(k) + "0001";
                if (i == k) {
                    land.read(2, text, 0);
                } else {
                    land.wrong(2, text, 1);
                    land.wrong(2, "1" + signs.charAt(i) + "1" + signs.charAt(k) + "0001", 3);
                }
            }
        }
    }
}
