/** Promises 23 (image), 24 (again). */
public final class ImagesTest {
    public static void main(String[] args) {
        noneSuch();
        allThatIsTold();
        imagesStay();
        landsAreMadeAnew();
        Check.end();
    }

    private static void noneSuch() {
        TypedAmounts x = new TypedAmounts();
        int[] none = {-1, 3, Integer.MIN_VALUE, Integer.MAX_VALUE};
        for (int k : none) {
            Check.due("image " + k, x.image(k), false);
            Check.due("again " + k, x.again(k), false);
        }
        Check.english(x);
        Check.type(x, "12");
        Check.due("image 1", x.image(1), true);
        x.key('3');
        Check.due("again 0", x.again(0), false);
        Check.due("again 2", x.again(2), false);
        Check.due("nothing changes", x.value(0, 0), 123000000);
        Check.due("again 1", x.again(1), true);
        Check.due("as it was", x.value(0, 0), 12000000);
    }

    private static void fill(TypedAmounts x) {
        Check.english(x);
        Check.type(x, "1,000");
        x.row();
        Check.type(x, "7");
        x.row();
        Check.type(x, "5.5");
        x.words(21);
        x.bounds(0, 0, 2000000000L);
        x.bounds(1, 1, 2);
        x.bounds(2, 5, 6);
    }

    private static void isFilled(String when, TypedAmounts x) {
        Check.due(when + " lands", x.count(0), 1);
        Check.due(when + " bytes", x.count(1), 3);
        Check.due(when + " rows", x.count(2), 2);
        Check.due(when + " value", x.value(0, 0), 5500000);
        Check.due(when + " land 1", x.open(1, 0), false);
        Check.due(when + " shown", Check.display(x), "twenty one");
        Check.due(when + " sum", x.sum(0, 0), 1007000000L);
        Check.type(x, "3,000");
        Check.due(when + " bounds", x.state(1, 0), 1);
        Check.type(x, "GBP1");
        Check.due(when + " bounds of money", x.state(1, 1), 1);
        Check.type(x, "1/1/0001");
        Check.due(when + " bounds of days", x.state(1, 2), 1);
        Check.type(x, "5.5");
    }

    private static void isEmpty(String when, TypedAmounts x) {
        for (int what = 0; what < 4; what++) {
            Check.due(when + " count " + what, x.count(what), 0);
        }
        Check.due(when + " shown", x.shown(0), -1);
        Check.due(when + " fit", x.fit(0), 0);
    }

    private static void allThatIsTold() {
        TypedAmounts x = new TypedAmounts();
        x.image(0);
        fill(x);
        isFilled("filled", x);
        x.image(2);
        x.again(0);
        isEmpty("empty again", x);
        Check.german(x);
        Check.type(x, "5.000,5-");
        Check.due("bounds leave all again", x.value(0, 0), -5000500000L);
        x.row();
        x.words(7);
        x.again(2);
        isFilled("filled again", x);
        x.clear();
        Check.type(x, "8");
        x.row();
        x.row();
        x.row();
        x.bounds(0, 0, 1);
        x.bounds(1, 0, 1000000);
        x.bounds(2, 0, 1);
        x.show(0, 0, 0, 0);
        Check.american(x);
        x.again(2);
        isFilled("filled once more", x);
    }

    private static void imagesStay() {
        TypedAmounts x = new TypedAmounts();
        Check.english(x);
        for (int k = 0; k < 3; k++) {
            x.key('1' + k);
            Check.due("image " + k, x.image(k), true);
        }
        x.undo(3);
        long[] values = {1000000, 12000000, 123000000};
        int[] order = {2, 0, 1, 1, 2, 0};
        for (int k : order) {
            Check.due("again " + k, x.again(k), true);
            Check.due("value of " + k, x.value(0, 0), values[k]);
            x.key('9');
        }
        x.image(1);
        x.again(0);
        x.again(1);
        Check.due("a later image takes its place", x.value(0, 0), 19000000);
        x.again(2);
        Check.due("others stay", x.value(0, 0), 123000000);
    }

    private static void landsAreMadeAnew() {
        TypedAmounts x = new TypedAmounts();
        Check.english(x);
        x.image(0);
        for (int i = 1; i < 6; i++) {
            Check.german(x);
        }
        x.image(1);
        x.again(0);
        Check.due("its number", Check.swedish(x), 1);
        Check.type(x, "1 234,5");
        Check.due("by the new land", x.value(1, 0), 1234500000L);
        x.again(1);
        Check.due("lands", x.count(0), 6);
        Check.due("no land more", Check.german(x), -1);
        Check.type(x, "1.234,5");
        Check.due("by the old land", x.value(1, 0), 1234500000L);
    }
}
