import java.math.BigDecimal;
import java.math.RoundingMode;
import java.util.ArrayList;
import java.util.List;
import java.util.Random;

/**
 * Promises 7 to 11 and 16 for numbers and money, by another way: all forms that a land has are
 * written out as patterns of fixed length ('#' a digit, '@' one that is no 0), and a text is READ
 * if it is of one, OPEN if it begins one.
 */
public final class AmountOracleTest {
    private static final String MARK = "ABA";
    private static final Random RANDOM = new Random(20261116);

    private final char point;
    private final char group;
    private final int grouping;
    private final int minus;
    private final boolean behind;
    private final List<List<String>> forms = new ArrayList<>();

    private AmountOracleTest(char point, char group, int grouping, int minus, boolean behind) {
        this.point = point;
        this.group = group;
        this.grouping = grouping;
        this.minus = minus;
        this.behind = behind;
        forms.add(withMinus(numbers()));
        forms.add(withMinus(moneys()));
    }

    public static void main(String[] args) {
        char[] points = {',', '.'};
        char[] groups = {',', '.', ' ', '\'', 0};
        for (char point : points) {
            for (char group : groups) {
                for (int i = 0; point != group && i < 12; i++) {
                    new AmountOracleTest(point, group, i % 2, i / 2 % 3, i / 6 == 1).run();
                }
            }
        }
        Check.end();
    }

    private String grouped(String digits) {
        StringBuilder text = new StringBuilder(digits);
        int at = digits.length() - 3;
        while (at > 0) {
            text.insert(at, group);
            at -= grouping == 0 ? 3 : 2;
        }
        return text.toString();
    }

    private List<String> numbers() {
        List<String> wholes = new ArrayList<>();
        wholes.add("0");
        for (int digits = 1; digits <= 9; digits++) {
            String together = "@" + "#".repeat(digits - 1);
            wholes.add(together);
            if (group != 0 && digits > 3) {
                wholes.add(grouped(together));
            }
        }
        List<String> all = new ArrayList<>(wholes);
        for (String whole : wholes) {
            for (int places = 1; places <= 6; places++) {
                all.add(whole + point + "#".repeat(places));
            }
        }
        return all;
    }

    private List<String> moneys() {
        List<String> all = new ArrayList<>();
        for (String number : numbers()) {
            all.add(behind ? number + MARK : MARK + number);
            all.add(behind ? number + " " + MARK : MARK + " " + number);
        }
        return all;
    }

    private List<String> withMinus(List<String> plain) {
        List<String> all = new ArrayList<>(plain);
        for (String form : plain) {
            all.add(minus == 0 ? "-" + form : minus == 1 ? form + "-" : "(" + form + ")");
        }
        return all;
    }

    private static boolean begins(String text, String form) {
        if (text.length() > form.length()) {
            return false;
        }
        for (int i = 0; i < text.length(); i++) {
            char sign = text.charAt(i);
            char want = form.charAt(i);
            boolean digit = sign >= '0' && sign <= '9';
            if (!(want == '#' ? digit : want == '@' ? digit && sign != '0' : sign == want)) {
                return false;
            }
        }
        return true;
    }

    /** 0 READ, 1 OPEN, 2 neither. */
    private int status(int kind, String text) {
        int status = 2;
        for (String form : forms.get(kind)) {
            if (begins(text, form)) {
                if (text.length() == form.length()) {
                    return 0;
                }
                status = 1;
            }
        }
        return status;
    }

    private long valueOf(String text) {
        StringBuilder number = new StringBuilder();
        for (char sign : text.toCharArray()) {
            if (sign >= '0' && sign <= '9') {
                number.append(sign);
            } else if (sign == point) {
                number.append('.');
            }
        }
        long size = new BigDecimal(number.toString()).movePointRight(6).longValueExact();
        return text.indexOf('-') >= 0 || text.indexOf('(') >= 0 ? -size : size;
    }

    private String display(int kind, long value, int n) {
        BigDecimal rounded = BigDecimal.valueOf(value, 6).setScale(n, RoundingMode.HALF_UP);
        String digits = rounded.abs().toPlainString();
        int dot = digits.indexOf('.');
        String whole = dot < 0 ? digits : digits.substring(0, dot);
        String text = group == 0 ? whole : grouped(whole);
        if (dot >= 0) {
            text += point + digits.substring(dot + 1);
        }
        if (kind == 1) {
            text = behind ? text + " " + MARK : MARK + text;
        }
        if (rounded.signum() < 0) {
            text = minus == 0 ? "-" + text : minus == 1 ? text + "-" : "(" + text + ")";
        }
        return text;
    }

    private String anyText(int kind) {
        List<String> all = forms.get(kind);
        StringBuilder text = new StringBuilder();
        for (char sign : all.get(RANDOM.nextInt(all.size())).toCharArray()) {
            text.append(sign == '#' ? (char) ('0' + RANDOM.nextInt(10)) : sign == '@' ? (char) ('1' + RANDOM.nextInt(9)) : sign);
        }
        String signs = "0123456789,.' -()AB\u0000\u00ff";
        int changes = RANDOM.nextInt(3);
        for (int i = 0; i < changes && text.length() > 0; i++) {
            int at = RANDOM.nextInt(text.length());
            char sign = signs.charAt(RANDOM.nextInt(signs.length()));
            switch (RANDOM.nextInt(4)) {
                case 0:
                    text.setLength(at);
                    break;
                case 1:
                    text.deleteCharAt(at);
                    break;
                case 2:
                    text.setCharAt(at, sign);
                    break;
                default:
                    text.insert(at, sign);
            }
        }
        return text.toString();
    }

    private TypedAmounts made() {
        TypedAmounts x = new TypedAmounts();
        Check.due("land", x.land(point, group, grouping, minus, Check.mark(MARK), behind, 0, '/'), 0);
        return x;
    }

    private void run() {
        for (int i = 0; i < 600; i++) {
            readOne(made(), i % 2);
            showOne(made(), i % 2);
        }
    }

    private void readOne(TypedAmounts x, int kind) {
        String text = anyText(kind);
        String told = "'" + text + "' by " + point + group + grouping + minus + behind + " as " + kind;
        int status = status(kind, text);
        int good = 0;
        while (good < text.length() && status(kind, text.substring(0, good + 1)) != 2) {
            good++;
        }
        Check.type(x, text);
        Check.due("value of " + told, x.value(0, kind), status == 0 ? valueOf(text) : Check.LEAST);
        Check.due("open of " + told, x.open(0, kind), status == 1);
        Check.due("good of " + told, x.good(0, kind), good);
        Check.due("state of " + told, x.state(1, kind), status == 2 ? 3 : status);
        Check.due("row of " + told, x.row(), 0);
        Check.due("fit of " + told, x.fit(kind), status == 0 ? 1 : 0);
    }

    private void showOne(TypedAmounts x, int kind) {
        long value = RANDOM.nextLong() % 1000000000000000L;
        for (int i = RANDOM.nextInt(16); i > 0; i--) {
            value /= 10;
        }
        int n = RANDOM.nextInt(7);
        String want = display(kind, value, n);
        if (want.replaceAll("[^0-9]", "").length() > 9 + n) {
            Check.due("show of " + value, x.show(0, kind, value, n), -1);
            return;
        }
        Check.due("bytes of " + value, x.show(0, kind, value, n), want.length());
        Check.due("show of " + value, Check.display(x), want);
        Check.due("other of " + value, x.other(0, 0, kind, value, n), valueOf(want));
    }
}
