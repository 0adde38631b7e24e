/** The edges of Term 2 for days: a method for each sentence. */
public final class DayEdgesTest {
    private static final int[] LENGTHS = {31, 28, 31, 30, 31, 30, 31, 31, 30, 31, 30, 31};

    public static void main(String[] args) {
        digitsOfEachPart();
        threeParts();
        years();
        months();
        lengthsOfMonths();
        leapYears();
        leapDayIsOpen();
        oneOrTwoDigits();
        firstAndLastDay();
        daysInARow();
        beginnings();
        Check.end();
    }

    private static String text(int order, String year, String month, String day) {
        return order == 0 ? day + "/" + month + "/" + year
                : order == 1 ? month + "/" + day + "/" + year : year + "/" + month + "/" + day;
    }

    private static void is(int order, String year, String month, String day, long due) {
        String text = text(order, year, month, day);
        TypedAmounts x = new OneLand().days(order, '/').with(text);
        Check.due("value of " + text + " by order " + order, x.value(0, 2), due);
    }

    private static void digitsOfEachPart() {
        Check.sentence("Term 2", "a day and a month of one or two digits, a year of four");
        String[] ones = {"", "1", "01", "001"};
        String[] years = {"", "1", "01", "001", "0001", "00001"};
        for (int order = 0; order < 3; order++) {
            for (int day = 0; day < 4; day++) {
                for (int month = 0; month < 4; month++) {
                    for (int year = 0; year < 6; year++) {
                        boolean is = (day == 1 || day == 2) && (month == 1 || month == 2) && year == 4;
                        is(order, years[year], ones[month], ones[day], is ? 0 : Check.LEAST);
                    }
                }
            }
        }
        OneLand land = new OneLand();
        land.wrong(2, "001", 1);
        land.wrongEnd(2, "011");
        land.wrong(2, "1/001", 3);
        land.wrongEnd(2, "1/011");
        land.wrongEnd(2, "1/1/00010");
        land.wrongEnd(2, "1/1/001/");
        OneLand yearFirst = new OneLand().days(2, '-');
        yearFirst.wrongEnd(2, "199-");
        yearFirst.wrongEnd(2, "19999");
        yearFirst.wrongEnd(2, "1999-010");
        yearFirst.wrongEnd(2, "1999-01-010");
    }

    private static void threeParts() {
        Check.sentence("Term 2", "three groups of digits, a DAY SIGN between each two");
        OneLand land = new OneLand();
        land.open(2, "1");
        land.open(2, "1/");
        land.open(2, "1/1");
        land.open(2, "1/1/");
        land.wrong(2, "/1/1/0001", 0);
        land.wrong(2, "1//1/0001", 2);
        land.wrong(2, "1/1//0001", 4);
        land.wrongEnd(2, "1/1/0001/");
        land.wrongEnd(2, "1/1/0001 ");
        land.wrongEnd(2, "1/1/0001-");
        land.wrong(2, "-1/1/0001", 0);
        land.wrong(2, " 1/1/0001", 0);
        land.wrong(2, "1 /1/0001", 1);
        land.wrong(2, "1/ 1/0001", 2);
        land.wrong(2, "01010001", 2);
    }

    private static void years() {
        Check.sentence("Term 2", "a year of four, 0001 to 9999");
        for (int order = 0; order < 3; order++) {
            is(order, "0000", "1", "1", Check.LEAST);
            is(order, "0000", "12", "31", Check.LEAST);
            is(order, "0001", "1", "1", 0);
            is(order, "0002", "1", "1", 365);
            is(order, "9999", "12", "31", 3652058);
            is(order, "10000", "1", "1", Check.LEAST);
        }
        new OneLand().open(2, "1/1/000");
        new OneLand().wrongEnd(2, "1/1/0000");
        new OneLand().days(2, '-').open(2, "000");
        new OneLand().days(2, '-').wrongEnd(2, "0000");
        new OneLand().days(2, '-').open(2, "0001");
        new OneLand().days(2, '-').open(2, "9999");
    }

    private static void months() {
        Check.sentence("Term 2", "it must be one (months have 31, 28");
        for (int order = 0; order < 3; order++) {
            for (int month = 0; month <= 99; month++) {
                TypedAmounts x = new OneLand().days(order, '/').with(text(order, "2001", "" + month, "1"));
                boolean is = month >= 1 && month <= 12;
                Check.due("state of month " + month + " by order " + order, x.state(1, 2), is ? 0 : 3);
            }
        }
        OneLand land = new OneLand();
        land.open(2, "1/12");
        land.wrongEnd(2, "1/13");
        land.wrongEnd(2, "1/20");
        land.wrongEnd(2, "1/0/");
        land.wrongEnd(2, "1/00");
        OneLand monthFirst = new OneLand().days(1, '/');
        monthFirst.open(2, "12");
        monthFirst.wrongEnd(2, "13");
        monthFirst.open(2, "2");
        monthFirst.wrongEnd(2, "20");
        monthFirst.open(2, "0");
        monthFirst.wrongEnd(2, "00");
        monthFirst.wrongEnd(2, "0/");
    }

    private static void lengthsOfMonths() {
        Check.sentence("Term 2", "months have 31, 28 (29 in a leap year), 31, 30, 31, 30, 31, 31, 30, 31, 30, 31 days");
        int[] years = {2001, 2004};
        for (int year : years) {
            long first = year == 2001 ? 730485 : 731580;
            for (int month = 1; month <= 12; month++) {
                int last = LENGTHS[month - 1] + (month == 2 && year == 2004 ? 1 : 0);
                for (int order = 0; order < 3; order++) {
                    is(order, "" + year, "" + month, "0", Check.LEAST);
                    is(order, "" + year, "" + month, "00", Check.LEAST);
                    is(order, "" + year, "" + month, "1", first);
                    is(order, "" + year, "" + month, "" + last, first + last - 1);
                    for (int day = last + 1; day <= 40; day++) {
                        is(order, "" + year, "" + month, "" + day, Check.LEAST);
                    }
                }
                first += last;
            }
        }
    }

    private static boolean isLeap(int year) {
        return year % 400 == 0 || year % 100 != 0 && year % 4 == 0;
    }

    private static void leapYears() {
        Check.sentence("Term 2", "leap: years that 4 goes into, but not 100, or 400 does");
        for (int year = 1; year <= 9999; year++) {
            String digits = String.valueOf(10000 + year).substring(1);
            String text = text(year % 3, digits, "2", "29");
            TypedAmounts x = new OneLand().days(year % 3, '/').with(text);
            Check.due("state of " + text, x.state(1, 2), isLeap(year) ? 0 : 3);
        }
        OneLand land = new OneLand();
        land.read(2, "29/2/0004", 3 * 365 + 59);
        land.wrongEnd(2, "29/2/0003");
        land.wrongEnd(2, "29/2/0100");
        land.read(2, "29/2/0400", 145790);
        land.wrongEnd(2, "29/2/1900");
        land.read(2, "29/2/2000", 730178);
        land.wrongEnd(2, "29/2/9900");
        land.read(2, "29/2/9996", 3650657);
    }

    /** Any begun year may still be a leap year; a whole one ahead tells at once. */
    private static void leapDayIsOpen() {
        Check.sentence("Term 2", "28 (29 in a leap year)");
        for (int begin = 0; begin < 1000; begin++) {
            String digits = String.valueOf(1000 + begin).substring(1);
            TypedAmounts x = new OneLand().with("29/2/" + digits);
            Check.due("open of 29/2/" + digits, x.open(0, 2), true);
        }
        OneLand land = new OneLand();
        land.open(2, "29/2");
        land.open(2, "29/02/");
        land.open(2, "29/2/1");
        land.wrongEnd(2, "30/2");
        land.wrongEnd(2, "30/02");
        OneLand monthFirst = new OneLand().days(1, '/');
        monthFirst.open(2, "2/29");
        monthFirst.wrongEnd(2, "2/30");
        monthFirst.open(2, "2/3");
        OneLand yearFirst = new OneLand().days(2, '/');
        yearFirst.wrongEnd(2, "1999/2/29");
        yearFirst.read(2, "1999/2/28", 729812);
        yearFirst.read(2, "2000/2/29", 730178);
        yearFirst.wrongEnd(2, "2000/2/30");
    }

    private static void oneOrTwoDigits() {
        Check.sentence("Term 2", "One digit, or two with a 0 ahead, are alike (00 is none).");
        for (int order = 0; order < 3; order++) {
            for (int number = 1; number <= 9; number++) {
                long due = new OneLand().days(order, '/').with(text(order, "2001", "" + number, "" + number)).value(0, 2);
                Check.due("some value of " + number, due >= 730485 && due <= 730849, true);
                is(order, "2001", "0" + number, "" + number, due);
                is(order, "2001", "" + number, "0" + number, due);
                is(order, "2001", "0" + number, "0" + number, due);
            }
            is(order, "2001", "00", "01", Check.LEAST);
            is(order, "2001", "01", "00", Check.LEAST);
            is(order, "2001", "0", "1", Check.LEAST);
            is(order, "2001", "1", "0", Check.LEAST);
        }
        new OneLand().open(2, "0");
        new OneLand().wrongEnd(2, "00");
        new OneLand().wrongEnd(2, "0/");
        new OneLand().days(2, '/').open(2, "2001/1/0");
        new OneLand().days(2, '/').wrongEnd(2, "2001/1/00");
        new OneLand().days(1, '/').wrongEnd(2, "1/0/");
    }

    private static void firstAndLastDay() {
        Check.sentence("Term 2", "The VALUE is how many days it is behind 1 January 1.");
        OneLand land = new OneLand();
        land.read(2, "1/1/0001", 0);
        land.read(2, "2/1/0001", 1);
        land.read(2, "31/12/0001", 364);
        land.read(2, "1/1/0002", 365);
        land.read(2, "1/1/0101", 36524);
        land.read(2, "1/1/0401", 146097);
        land.read(2, "1/1/1970", 719162);
        land.read(2, "30/12/9999", 3652057);
        land.read(2, "31/12/9999", 3652058);
        land.wrongEnd(2, "32");
        land.shows(2, 0, 0, "01/01/0001");
        land.shows(2, 3652058, 0, "31/12/9999");
        land.showsNone(2, -1, 0);
        land.showsNone(2, 3652059, 0);
    }

    /** Each day of years around a century and around 400 years is one behind the day ahead of it. */
    private static void daysInARow() {
        Check.sentence("Term 2", "The VALUE is how many days it is behind 1 January 1.");
        int[] firsts = {1, 99, 399, 1899, 1999, 9997};
        long[] values = {0, 35794, 145366, 693230, 729754, 3650964};
        for (int i = 0; i < firsts.length; i++) {
            long value = values[i];
            for (int year = firsts[i]; year <= Math.min(firsts[i] + 2, 9999); year++) {
                for (int month = 1; month <= 12; month++) {
                    int last = LENGTHS[month - 1] + (month == 2 && isLeap(year) ? 1 : 0);
                    for (int day = 1; day <= last; day++) {
                        is(day % 3, String.valueOf(10000 + year).substring(1), "" + month, "" + day, value);
                        value++;
                    }
                }
            }
        }
    }

    private static void beginnings() {
        Check.sentence("Term 2", "It is OPEN for a LAND and KIND if it is not READ, and, with some bytes more, could be");
        OneLand land = new OneLand();
        for (int first = 0; first <= 9; first++) {
            land.open(2, "" + first);
            for (int second = 0; second <= 9; second++) {
                int day = first * 10 + second;
                String text = "" + first + second;
                if (day >= 1 && day <= 31) {
                    land.open(2, text);
                } else {
                    land.wrongEnd(2, text);
                }
            }
        }
        land.open(2, "31/0");
        land.open(2, "31/1");
        land.wrongEnd(2, "31/2");
        land.open(2, "31/3");
        land.wrongEnd(2, "31/4");
        land.wrongEnd(2, "31/6");
        land.wrongEnd(2, "31/9");
        land.open(2, "31/10");
        land.wrongEnd(2, "31/11");
        land.open(2, "31/12");
        land.open(2, "30/4");
        land.open(2, "31/1/");
        OneLand monthFirst = new OneLand().days(1, '/');
        monthFirst.open(2, "4/30");
        monthFirst.wrongEnd(2, "4/31");
        monthFirst.open(2, "11/3");
        monthFirst.open(2, "1/31");
        monthFirst.wrongEnd(2, "1/32");
        monthFirst.open(2, "1/4");
        monthFirst.wrongEnd(2, "1/40");
        OneLand yearFirst = new OneLand().days(2, '/');
        yearFirst.open(2, "2001/");
        yearFirst.open(2, "2001/1");
        yearFirst.open(2, "2001/0");
        yearFirst.open(2, "2001/1/");
        yearFirst.read(2, "2001/1/3", 730487);
        yearFirst.read(2, "2001/1/31", 730515);
        yearFirst.wrongEnd(2, "2001/1/32");
        yearFirst.wrongEnd(2, "2001/4/31");
    }
}
