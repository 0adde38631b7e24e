/** Promise 2 (land). */
public final class LandTest {
    private static final int EUR = Check.mark("EUR");

    public static void main(String[] args) {
        wrongLands();
        everyLand();
        sixLands();
        Check.end();
    }

    private static void refused(String what, int... a) {
        TypedAmounts x = new TypedAmounts();
        Check.due(what, x.land(a[0], a[1], a[2], a[3], a[4], false, a[5], a[6]), -1);
        Check.due(what + ", ahead", x.land(a[0], a[1], a[2], a[3], a[4], true, a[5], a[6]), -1);
        Check.due(what + ", lands", x.count(0), 0);
    }

    private static void wrongLands() {
        refused("point is no sign", ';', ',', 0, 0, EUR, 0, '/');
        refused("point 0", 0, ',', 0, 0, EUR, 0, '/');
        refused("point blank", ' ', ',', 0, 0, EUR, 0, '/');
        refused("group is the point ,", ',', ',', 0, 0, EUR, 0, '/');
        refused("group is the point .", '.', '.', 0, 0, EUR, 0, '/');
        refused("group is no sign", '.', '_', 0, 0, EUR, 0, '/');
        refused("group -1", '.', -1, 0, 0, EUR, 0, '/');
        refused("grouping -1", '.', ',', -1, 0, EUR, 0, '/');
        refused("grouping 2", '.', ',', 2, 0, EUR, 0, '/');
        refused("grouping 2 without group", '.', 0, 2, 0, EUR, 0, '/');
        refused("minus -1", '.', ',', 0, -1, EUR, 0, '/');
        refused("minus 3", '.', ',', 0, 3, EUR, 0, '/');
        refused("mark of small letters", '.', ',', 0, 0, Check.mark("EuR"), 0, '/');
        refused("mark with @", '.', ',', 0, 0, Check.mark("@UR"), 0, '/');
        refused("mark with [", '.', ',', 0, 0, Check.mark("EU["), 0, '/');
        refused("mark of two letters", '.', ',', 0, 0, 'E' << 8 | 'U', 0, '/');
        refused("mark of four bytes", '.', ',', 0, 0, 'A' << 24 | EUR, 0, '/');
        refused("mark below 0", '.', ',', 0, 0, 0xff000000 | EUR, 0, '/');
        refused("order -1", '.', ',', 0, 0, EUR, -1, '/');
        refused("order 3", '.', ',', 0, 0, EUR, 3, '/');
        refused("day sign ,", '.', ',', 0, 0, EUR, 0, ',');
        refused("day sign 0", '.', ',', 0, 0, EUR, 0, 0);
        refused("day sign blank", '.', ',', 0, 0, EUR, 0, ' ');
    }

    private static void everyLand() {
        int[] points = {',', '.'};
        int[] groups = {',', '.', ' ', '\'', 0};
        int[] daySigns = {'/', '.', '-'};
        for (int point : points) {
            for (int group : groups) {
                for (int i = 0; i < 2 * 3 * 3 * 3; i++) {
                    TypedAmounts x = new TypedAmounts();
                    int got = x.land(point, group, i % 2, i / 2 % 3, Check.mark("AZM"), i % 4 < 2, i / 6 % 3, daySigns[i / 18]);
                    Check.due("land " + point + " " + group + " " + i, got, point == group ? -1 : 0);
                }
            }
        }
    }

    private static void sixLands() {
        TypedAmounts x = new TypedAmounts();
        for (int i = 0; i < 6; i++) {
            Check.due("land " + i, x.land('.', ',', 0, 0, Check.mark("AAA") + i, false, 0, '/'), i);
        }
        Check.due("land 6", x.land('.', ',', 0, 0, EUR, false, 0, '/'), -1);
        Check.due("lands", x.count(0), 6);
        Check.type(x, "AAE 5");
        for (int i = 0; i < 6; i++) {
            Check.due("money of land " + i, x.value(i, 1), i == 4 ? 5000000L : Check.LEAST);
        }
        Check.type(x, "5");
        Check.due("land 6 is none", x.value(6, 0), Check.LEAST);
        Check.due("land -1 is none", x.value(-1, 0), Check.LEAST);
    }
}
