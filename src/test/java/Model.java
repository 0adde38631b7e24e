import java.math.BigDecimal;
import java.math.RoundingMode;
import java.time.LocalDate;
import java.util.ArrayList;
import java.util.List;
import java.util.regex.Matcher;
import java.util.regex.Pattern;

/**
 * The whole document written once more, in another way than the class: texts are Strings, amounts
 * are regular expressions (OPEN is what the matcher's hitEnd tells), days are those of java.time.
 */
final class Model {
    private static final long LEAST = Long.MIN_VALUE;
    private static final long TOP = 999999999999999L;
    private static final LocalDate FIRST = LocalDate.of(1, 1, 1);
    private static final String[] UNITS = ("zero one two three four five six seven eight nine ten eleven twelve thirteen "
            + "fourteen fifteen sixteen seventeen eighteen nineteen").split(" ");
    private static final String[] TENS = "- - twenty thirty forty fifty sixty seventy eighty ninety".split(" ");

    /** What READ, OPEN or neither a text is: its VALUE counts only where it is READ. */
    private record Reading(boolean read, boolean open, long value) {
    }

    private static final Reading OPEN = new Reading(false, true, 0);
    private static final Reading NEITHER = new Reading(false, false, 0);

    private record Land(int point, int group, int grouping, int minus, String mark, boolean behind, int order, int daySign,
            Pattern number, Pattern money) {
    }

    private record State(List<Land> lands, String line, List<String> rows, String display, long[] least, long[] greatest) {
        State copy() {
            return new State(List.copyOf(lands), line, List.copyOf(rows), display, least.clone(), greatest.clone());
        }
    }

    private final List<Land> lands = new ArrayList<>();
    private final List<String> rows = new ArrayList<>();
    private final long[] least = {LEAST, LEAST, LEAST};
    private final long[] greatest = {Long.MAX_VALUE, Long.MAX_VALUE, Long.MAX_VALUE};
    private final State[] images = new State[3];
    private String line = "";
    private String display = "";

    int land(int point, int group, int grouping, int minus, int mark, boolean behind, int order, int daySign) {
        String letters = "" + (char) (mark >> 16 & 255) + (char) (mark >> 8 & 255) + (char) (mark & 255);
        boolean can = lands.size() < 6 && List.of(44, 46).contains(point) && List.of(0, 32, 39, 44, 46).contains(group)
                && group != point && List.of(0, 1).contains(grouping) && List.of(0, 1, 2).contains(minus)
                && mark >>> 24 == 0 && letters.matches("[A-Z]{3}") && List.of(0, 1, 2).contains(order)
                && List.of(45, 46, 47).contains(daySign);
        if (!can) {
            return -1;
        }
        String number = numberPattern(point, group, grouping);
        String money = behind ? number + " ?" + letters : letters + " ?" + number;
        lands.add(new Land(point, group, grouping, minus, letters, behind, order, daySign,
                withMinus(number, minus), withMinus(money, minus)));
        return lands.size() - 1;
    }

    private static String quoted(int sign) {
        return "[" + (char) sign + "]";
    }

    private static String numberPattern(int point, int group, int grouping) {
        String gap = group == 0 ? "" : quoted(group);
        String whole = "0|[1-9]\\d{0,8}";
        if (group != 0 && grouping == 0) {
            whole += "|[1-9]\\d{0,2}(?:" + gap + "\\d\\d\\d){1,2}";
        } else if (group != 0) {
            whole += "|[1-9]\\d?(?:" + gap + "\\d\\d){0,2}" + gap + "\\d\\d\\d";
        }
        return "(?:" + whole + ")(?:" + quoted(point) + "\\d{1,6})?";
    }

    private static Pattern withMinus(String form, int minus) {
        String below = minus == 0 ? "-" + form : minus == 1 ? form + "-" : "\\(" + form + "\\)";
        return Pattern.compile("(?:" + form + ")|(?:" + below + ")", Pattern.DOTALL);
    }

    int key(int sign) {
        if (sign < 0 || sign > 255 || line.length() == 60) {
            return -1;
        }
        line += (char) sign;
        return line.length();
    }

    int keys(int signs) {
        String coming = "" + (char) (signs >>> 24) + (char) (signs >> 16 & 255) + (char) (signs >> 8 & 255) + (char) (signs & 255);
        int nought = coming.indexOf(0);
        String longer = line + (nought < 0 ? coming : coming.substring(0, nought));
        if (longer.length() > 60) {
            return -1;
        }
        line = longer;
        return line.length();
    }

    int undo(int n) {
        if (n < 0 || n > line.length()) {
            return -1;
        }
        line = line.substring(0, line.length() - n);
        return line.length();
    }

    boolean bounds(int kind, long from, long to) {
        if (kind < 0 || kind > 2 || from > to) {
            return false;
        }
        least[kind] = from;
        greatest[kind] = to;
        return true;
    }

    private boolean none(int land, int kind) {
        return land < 0 || land >= lands.size() || kind < 0 || kind > 2;
    }

    private static Reading reading(Land land, int kind, String text) {
        if (kind == 2) {
            return dayReading(land, text);
        }
        Matcher matcher = (kind == 0 ? land.number : land.money).matcher(text);
        if (matcher.matches()) {
            String digits = text.replaceAll("[^0-9" + (char) land.point + "]", "").replace(',', '.');
            long size = new BigDecimal(digits).movePointRight(6).longValueExact();
            return new Reading(true, false, text.matches(".*[-(].*") ? -size : size);
        }
        return matcher.hitEnd() ? OPEN : NEITHER;
    }

    private static Reading dayReading(Land land, String text) {
        String sign = quoted(land.daySign);
        String two = "\\d\\d?";
        String shape = land.order == 2 ? "\\d{4}" + sign + two + sign + two : two + sign + two + sign + "\\d{4}";
        if (text.matches(shape)) {
            String[] parts = text.split(sign);
            int year = Integer.parseInt(parts[land.order == 2 ? 0 : 2]);
            int month = Integer.parseInt(parts[land.order == 1 ? 0 : 1]);
            int day = Integer.parseInt(parts[land.order == 2 ? 2 : land.order]);
            if (isDay(year, month, day)) {
                return new Reading(true, false, LocalDate.of(year, month, day).toEpochDay() - FIRST.toEpochDay());
            }
        }
        return beginsDay(land, text) ? OPEN : NEITHER;
    }

    private static boolean isDay(int year, int month, int day) {
        return year >= 1 && year <= 9999 && month >= 1 && month <= 12 && day >= 1
                && day <= LocalDate.of(year, month, 1).lengthOfMonth();
    }

    private static boolean someYear(String begin, int month, int day) {
        if (!begin.matches("\\d{0,4}")) {
            return false;
        }
        int free = begin.length() == 4 ? 1 : begin.length() == 3 ? 10 : begin.length() == 2 ? 100 : begin.length() == 1 ? 1000 : 10000;
        int from = begin.isEmpty() ? 0 : Integer.parseInt(begin) * free;
        for (int year = from; year < from + free; year++) {
            if (isDay(year, month, day)) {
                return true;
            }
        }
        return false;
    }

    private static boolean beginsDay(Land land, String text) {
        if (text.length() > 10) {
            return false;
        }
        for (int month = 1; month <= 12; month++) {
            for (int day = 1; day <= 31; day++) {
                for (int zeros = 0; zeros < 4; zeros++) {
                    String m = zeros % 2 == 1 && month < 10 ? "0" + month : "" + month;
                    String d = zeros / 2 == 1 && day < 10 ? "0" + day : "" + day;
                    if (beginsDay(land, text, month, day, m, d)) {
                        return true;
                    }
                }
            }
        }
        return false;
    }

    private static boolean beginsDay(Land land, String text, int month, int day, String m, String d) {
        char sign = (char) land.daySign;
        if (land.order == 2) {
            String year = text.substring(0, Math.min(4, text.length()));
            String behind = text.substring(year.length());
            return (sign + m + sign + d).startsWith(behind) && someYear(year, month, day);
        }
        String head = land.order == 0 ? d + sign + m + sign : m + sign + d + sign;
        if (head.startsWith(text)) {
            return someYear("", month, day);
        }
        return text.startsWith(head) && someYear(text.substring(head.length()), month, day);
    }

    private boolean counts(Reading reading, int kind) {
        return reading.read && reading.value >= least[kind] && reading.value <= greatest[kind];
    }

    private long valueOf(int land, int kind, String text) {
        Reading reading = reading(lands.get(land), kind, text);
        return counts(reading, kind) ? reading.value : LEAST;
    }

    long value(int land, int kind) {
        return none(land, kind) ? LEAST : valueOf(land, kind, line);
    }

    boolean open(int land, int kind) {
        return !none(land, kind) && reading(lands.get(land), kind, line).open;
    }

    int good(int land, int kind) {
        if (none(land, kind)) {
            return -1;
        }
        for (int most = line.length(); most > 0; most--) {
            Reading reading = reading(lands.get(land), kind, line.substring(0, most));
            if (reading.read || reading.open) {
                return most;
            }
        }
        return 0;
    }

    int state(int set, int kind) {
        if (kind < 0 || kind > 2) {
            return -1;
        }
        List<Long> values = new ArrayList<>();
        boolean hope = false;
        for (int i = 0; i < lands.size(); i++) {
            if ((set & 1 << i) != 0) {
                Reading reading = reading(lands.get(i), kind, line);
                hope |= reading.open || reading.read;
                if (counts(reading, kind)) {
                    values.add(reading.value);
                }
            }
        }
        if (values.isEmpty()) {
            return hope ? 1 : 3;
        }
        return values.stream().distinct().count() == 1 ? 0 : 2;
    }

    /** What a LAND shows, or null where that is NONE. */
    private String text(int a, int kind, long value, int n) {
        if (none(a, kind)) {
            return null;
        }
        Land land = lands.get(a);
        if (kind == 2) {
            if (value < 0 || value > 3652058) {
                return null;
            }
            LocalDate date = FIRST.plusDays(value);
            String form = land.order == 0 ? "%1$02d%4$c%2$02d%4$c%3$04d" : land.order == 1 ? "%2$02d%4$c%1$02d%4$c%3$04d" : "%3$04d%4$c%2$02d%4$c%1$02d";
            return String.format(form, date.getDayOfMonth(), date.getMonthValue(), date.getYear(), land.daySign);
        }
        if (n < 0 || n > 6 || value > TOP || value < -TOP) {
            return null;
        }
        BigDecimal rounded = BigDecimal.valueOf(value, 6).setScale(n, RoundingMode.HALF_UP);
        if (rounded.abs().compareTo(BigDecimal.valueOf(TOP, 6)) > 0) {
            return null;
        }
        String[] digits = rounded.abs().toPlainString().split("[.]");
        String shown = grouped(land, digits[0]) + (n == 0 ? "" : (char) land.point + digits[1]);
        if (kind == 1) {
            shown = land.behind ? shown + " " + land.mark : land.mark + shown;
        }
        if (rounded.signum() < 0) {
            shown = land.minus == 0 ? "-" + shown : land.minus == 1 ? shown + "-" : "(" + shown + ")";
        }
        return shown;
    }

    private static String grouped(Land land, String digits) {
        if (land.group == 0) {
            return digits;
        }
        String gaps = land.grouping == 0 ? "\\B(?=(?:\\d{3})+$)" : "\\B(?=(?:\\d\\d)*\\d{3}$)";
        return digits.replaceAll(gaps, String.valueOf((char) land.group));
    }

    int show(int land, int kind, long value, int n) {
        String shown = text(land, kind, value, n);
        if (shown == null) {
            return -1;
        }
        display = shown;
        return display.length();
    }

    private static String below1000(int n) {
        String hundreds = n >= 100 ? UNITS[n / 100] + " hundred " : "";
        int rest = n % 100;
        String small = rest == 0 ? "" : rest < 20 ? UNITS[rest] : TENS[rest / 10] + (rest % 10 == 0 ? "" : " " + UNITS[rest % 10]);
        return (hundreds + small).trim();
    }

    private static String wordsOf(int n) {
        String millions = n >= 1000000 ? below1000(n / 1000000) + " million " : "";
        String thousands = n / 1000 % 1000 > 0 ? below1000(n / 1000 % 1000) + " thousand " : "";
        return n == 0 ? "zero" : (millions + thousands + below1000(n % 1000)).trim();
    }

    int words(int n) {
        if (n < 0 || n > 999999999) {
            return -1;
        }
        display = wordsOf(n);
        return display.length();
    }

    int shown(int k) {
        return k < 0 || k >= display.length() ? -1 : display.charAt(k);
    }

    int take() {
        if (display.isEmpty() || display.length() > 60) {
            return -1;
        }
        line = display;
        return line.length();
    }

    /** By parts: what stands ahead of " million", of " thousand", and the rest. */
    int spoken() {
        for (int cut = 0; line.matches("[a-z]+(?: [a-z]+)*") && cut < 4; cut++) {
            String text = line;
            int millions = 0;
            int thousands = 0;
            if (cut / 2 == 1) {
                millions = partAhead(text, " million");
                text = behind(text, " million");
            }
            if (cut % 2 == 1) {
                thousands = partAhead(text, " thousand");
                text = behind(text, " thousand");
            }
            int rest = text.isEmpty() ? 0 : partAhead(text, "");
            int number = millions * 1000000 + thousands * 1000 + rest;
            if (millions >= 0 && thousands >= 0 && rest >= 0 && wordsOf(number).equals(line)) {
                return number;
            }
        }
        return -1;
    }

    private static int partAhead(String text, String name) {
        for (int n = 0; n < 1000; n++) {
            String part = n == 0 ? "zero" : below1000(n);
            if (text.equals(part + name) || text.startsWith(part + name + " ")) {
                boolean longest = !name.isEmpty() || text.equals(part);
                if (longest) {
                    return n;
                }
            }
        }
        return -1;
    }

    private static String behind(String text, String name) {
        int at = text.indexOf(name);
        return at < 0 ? "" : text.substring(at + name.length()).trim();
    }

    long other(int a, int b, int kind, long value, int n) {
        String shown = text(a, kind, value, n);
        if (shown == null || none(b, kind)) {
            return LEAST;
        }
        Reading reading = reading(lands.get(b), kind, shown);
        return reading.read ? reading.value : LEAST;
    }

    int row() {
        if (rows.size() == 30) {
            return -1;
        }
        rows.add(line);
        line = "";
        return rows.size() - 1;
    }

    void clear() {
        rows.clear();
    }

    int fit(int kind) {
        if (kind < 0 || kind > 2) {
            return -1;
        }
        int bits = 0;
        for (int i = 0; i < lands.size(); i++) {
            bits |= misfit(i, kind) == -1 ? 1 << i : 0;
        }
        return bits;
    }

    int misfit(int land, int kind) {
        for (int i = 0; !none(land, kind) && i < rows.size(); i++) {
            if (valueOf(land, kind, rows.get(i)) == LEAST) {
                return i;
            }
        }
        return -1;
    }

    long sum(int land, int kind) {
        if (none(land, kind) || kind == 2 || misfit(land, kind) != -1) {
            return LEAST;
        }
        return rows.stream().mapToLong(row -> valueOf(land, kind, row)).sum();
    }

    int count(int what) {
        int[] counts = {lands.size(), line.length(), rows.size(), display.length()};
        return what < 0 || what > 3 ? -1 : counts[what];
    }

    boolean image(int k) {
        if (k < 0 || k > 2) {
            return false;
        }
        images[k] = new State(lands, line, rows, display, least, greatest).copy();
        return true;
    }

    boolean again(int k) {
        if (k < 0 || k > 2 || images[k] == null) {
            return false;
        }
        lands.clear();
        lands.addAll(images[k].lands);
        line = images[k].line;
        rows.clear();
        rows.addAll(images[k].rows);
        display = images[k].display;
        System.arraycopy(images[k].least, 0, least, 0, 3);
        System.arraycopy(images[k].greatest, 0, greatest, 0, 3);
        return true;
    }
}
