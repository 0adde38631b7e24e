import java.time.DateTimeException;
import java.time.LocalDate;
import java.util.ArrayList;
import java.util.List;
import java.util.Random;

/** Promises 7 to 11 and 16 for days, by the calendar of the Java library. */
public final class DayOracleTest {
    private static final LocalDate FIRST = LocalDate.of(1, 1, 1);
    private static final char[] SIGNS = {'/', '.', '-'};
    private static final Random RANDOM = new Random(1582);

    public static void main(String[] args) {
        everyDay();
        displays();
        for (int order = 0; order < 3; order++) {
            everyShortText(order);
            texts(order);
        }
        Check.end();
    }

    private static TypedAmounts made() {
        TypedAmounts x = new TypedAmounts();
        for (int order = 0; order < 3; order++) {
            x.land('.', 0, 0, 0, Check.mark("ABC"), false, order, SIGNS[order]);
        }
        return x;
    }

    private static void everyDay() {
        TypedAmounts x = made();
        for (int day = 0; day <= 3652058; day++) {
            if (day % 500 == 0) {
                x = made();
            }
            Check.due("other of day " + day, x.other(day % 3, day % 3, 2, day, 0), day);
        }
    }

    private static String text(int order, LocalDate date) {
        String day = String.format("%02d", date.getDayOfMonth());
        String month = String.format("%02d", date.getMonthValue());
        String year = String.format("%04d", date.getYear());
        String sign = String.valueOf(SIGNS[order]);
        return order == 0 ? day + sign + month + sign + year
                : order == 1 ? month + sign + day + sign + year : year + sign + month + sign + day;
    }

    private static void displays() {
        for (int day = 0; day <= 3652058; day += 1 + RANDOM.nextInt(60)) {
            TypedAmounts x = made();
            int order = RANDOM.nextInt(3);
            Check.due("bytes", x.show(order, 2, day, day), 10);
            Check.due("show of day " + day, Check.display(x), text(order, FIRST.plusDays(day)));
        }
    }

    private static boolean isDay(int year, int month, int day) {
        try {
            LocalDate.of(year, month, day);
            return year >= 1 && year <= 9999;
        } catch (DateTimeException none) {
            return false;
        }
    }

    private static long valueOf(int order, String text) {
        String digits = order == 2 ? "\\d{4}-\\d{1,2}-\\d{1,2}"
                : "\\d{1,2}[" + SIGNS[order] + "]\\d{1,2}[" + SIGNS[order] + "]\\d{4}";
        if (!text.matches(digits)) {
            return Check.LEAST;
        }
        String[] parts = text.split("[./-]");
        int first = Integer.parseInt(parts[0]);
        int second = Integer.parseInt(parts[1]);
        int third = Integer.parseInt(parts[2]);
        int year = order == 2 ? first : third;
        int month = order == 1 ? first : second;
        int day = order == 0 ? first : order == 1 ? second : third;
        return isDay(year, month, day) ? LocalDate.of(year, month, day).toEpochDay() - FIRST.toEpochDay() : Check.LEAST;
    }

    private static List<String> ways(int number) {
        List<String> ways = new ArrayList<>();
        ways.add(String.valueOf(number));
        if (number < 10) {
            ways.add("0" + number);
        }
        return ways;
    }

    private static boolean someYear(String begin, int month, int day) {
        for (int year = 1; year <= 9999; year++) {
            String digits = String.valueOf(10000 + year).substring(1);
            if (digits.startsWith(begin) && isDay(year, month, day)) {
                return true;
            }
        }
        return false;
    }

    /** Whether the text begins that of some day. */
    private static boolean begins(int order, String text) {
        if (order == 2 && text.length() <= 4) {
            return text.matches("\\d*") && someYear(text, 1, 1);
        }
        if (order == 2 && !text.matches("\\d{4}-.*")) {
            return false;
        }
        char sign = SIGNS[order];
        for (int month = 1; month <= 12; month++) {
            for (int day = 1; day <= 31; day++) {
                for (String m : ways(month)) {
                    for (String d : ways(day)) {
                        if (order == 2) {
                            String rest = m + sign + d;
                            if (rest.startsWith(text.substring(5)) && isDay(Integer.parseInt(text.substring(0, 4)), month, day)) {
                                return true;
                            }
                            continue;
                        }
                        String head = order == 0 ? d + sign + m + sign : m + sign + d + sign;
                        String begin = text.startsWith(head) ? text.substring(head.length()) : "";
                        if ((head.startsWith(text) || text.startsWith(head)) && someYear(begin, month, day)) {
                            return true;
                        }
                    }
                }
            }
        }
        return false;
    }

    private static void compare(int order, String text) {
        long value = valueOf(order, text);
        boolean begins = begins(order, text);
        int good = text.length();
        for (boolean is = begins; !is; is = begins(order, text.substring(0, good))) {
            good--;
        }
        TypedAmounts x = made();
        Check.type(x, text);
        String told = "'" + text + "' by order " + order;
        Check.due("value of " + told, x.value(order, 2), value);
        Check.due("open of " + told, x.open(order, 2), begins && value == Check.LEAST);
        Check.due("good of " + told, x.good(order, 2), good);
        Check.due("state of " + told, x.state(1 << order, 2), value != Check.LEAST ? 0 : begins ? 1 : 3);
    }

    /** All pairs of one or two digits, with what may come between and behind. */
    private static void everyShortText(int order) {
        String ahead = order == 2 ? "1999-" : "";
        char sign = SIGNS[order];
        for (int first = 0; first < 110; first++) {
            String one = first < 100 ? String.format("%02d", first) : String.valueOf(first - 100);
            compare(order, ahead + one);
            compare(order, ahead + one + sign);
            for (int second = RANDOM.nextInt(3); second < 110; second += 3) {
                String two = second < 100 ? String.format("%02d", second) : String.valueOf(second - 100);
                compare(order, ahead + one + sign + two);
            }
        }
    }

    private static void texts(int order) {
        String signs = "0123456789/.-";
        for (int i = 0; i < 6000; i++) {
            int number = i % 4 == 0 ? 365 * 4 * RANDOM.nextInt(2500) + 1153 - RANDOM.nextInt(60) : RANDOM.nextInt(3652059);
            StringBuilder text = new StringBuilder(text(order, FIRST.plusDays(Math.max(0, number))));
            int changes = RANDOM.nextInt(4);
            for (int k = 0; k < changes && text.length() > 0; k++) {
                int at = RANDOM.nextInt(text.length());
                char sign = signs.charAt(RANDOM.nextInt(signs.length()));
                switch (RANDOM.nextInt(4)) {
                    case 0:
                        text.setLength(at);
                        break;
                    case 1:
                        text.deleteCharAt(at);
                        break;
                    default:
                        text.setCharAt(at, sign);
                }
            }
            compare(order, text.toString());
        }
    }
}
