/**
 * An object with one land, made anew for each text, so that none gets many calls. As it begins:
 * 1,234,567.89, -1, ABC1, 31/12/1999.
 */
final class OneLand {
    private int point = '.';
    private int group = ',';
    private int grouping = 0;
    private int minus = 0;
    private String mark = "ABC";
    private boolean behind = false;
    private int order = 0;
    private int daySign = '/';

    OneLand signs(int newPoint, int newGroup) {
        point = newPoint;
        group = newGroup;
        return this;
    }

    OneLand grouping(int number) {
        grouping = number;
        return this;
    }

    OneLand minus(int number) {
        minus = number;
        return this;
    }

    OneLand mark(String letters, boolean standsBehind) {
        mark = letters;
        behind = standsBehind;
        return this;
    }

    OneLand days(int newOrder, int newSign) {
        order = newOrder;
        daySign = newSign;
        return this;
    }

    /** What land() answers to the same on an object that may have lands already. */
    int addTo(TypedAmounts x) {
        return x.land(point, group, grouping, minus, Check.mark(mark), behind, order, daySign);
    }

    TypedAmounts made() {
        TypedAmounts x = new TypedAmounts();
        addTo(x);
        return x;
    }

    TypedAmounts with(String text) {
        TypedAmounts x = made();
        Check.add(x, text);
        return x;
    }

    private String told(int kind, String text) {
        return "'" + text + "' as " + kind + " by (" + point + " " + group + " " + grouping + " " + minus + " " + mark + " "
                + behind + " " + order + " " + daySign + ")";
    }

    /** The text is READ: it has the value, is not OPEN, and all of it is good. */
    void read(int kind, String text, long value) {
        answers(kind, text, value, false, text.length(), 0);
    }

    void open(int kind, String text) {
        answers(kind, text, Check.LEAST, true, text.length(), 1);
    }

    /** Only the first bytes, as many as told, are READ or OPEN. */
    void wrong(int kind, String text, int good) {
        answers(kind, text, Check.LEAST, false, good, 3);
    }

    /** Only the last byte is wrong. */
    void wrongEnd(int kind, String text) {
        wrong(kind, text, text.length() - 1);
    }

    private void answers(int kind, String text, long value, boolean open, int good, int state) {
        TypedAmounts x = with(text);
        Check.due("value of " + told(kind, text), x.value(0, kind), value);
        Check.due("open of " + told(kind, text), x.open(0, kind), open);
        Check.due("good of " + told(kind, text), x.good(0, kind), good);
        Check.due("state of " + told(kind, text), x.state(1, kind), state);
        Check.due("row of " + told(kind, text), x.row(), 0);
        Check.due("fit of " + told(kind, text), x.fit(kind), state == 0 ? 1 : 0);
        Check.due("misfit of " + told(kind, text), x.misfit(0, kind), state == 0 ? -1 : 0);
    }

    void shows(int kind, long value, int n, String want) {
        TypedAmounts x = made();
        Check.due("bytes of " + want, x.show(0, kind, value, n), want.length());
        Check.due("show of " + value + " with " + n, Check.display(x), want);
        Check.due("count of " + want, x.count(3), want.length());
    }

    /** NONE, also by other(), and what was SHOWN stays. */
    void showsNone(int kind, long value, int n) {
        TypedAmounts x = made();
        x.words(7);
        String what = value + " as " + kind + " with " + n;
        Check.due("show of " + what, x.show(0, kind, value, n), -1);
        Check.due("what was SHOWN stays, " + what, Check.display(x), "seven");
        Check.due("other of " + what, x.other(0, 0, kind, value, n), Check.LEAST);
    }
}
