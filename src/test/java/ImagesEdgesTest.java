/** The edges of Promises 23 (image) and 24 (again): a method for each sentence. */
public final class ImagesEdgesTest {
    private static final int[] NONE = {Integer.MIN_VALUE, -1, 3, 4, 256, Integer.MAX_VALUE};

    public static void main(String[] args) {
        threeImages();
        anotherK();
        noneSuch();
        ofANewObject();
        ofAFullObject();
        asItIsNow();
        otherImagesStay();
        boundsOfEachKind();
        eachLand();
        Check.end();
    }

    private static void threeImages() {
        Check.sentence("Promise 23", "Image k (0 .. 2) is all that is told, as it is now: true");
        for (int k = 0; k < 3; k++) {
            TypedAmounts x = new OneLand().with("12");
            Check.due("image " + k, x.image(k), true);
            x.key('3');
            for (int other = 0; other < 3; other++) {
                if (other != k) {
                    Check.due("again " + other + " while only " + k + " is", x.again(other), false);
                    Check.due("nothing changes", x.value(0, 0), 123000000);
                }
            }
            Check.due("again " + k, x.again(k), true);
            Check.due("as it was", x.value(0, 0), 12000000);
        }
    }

    private static void anotherK() {
        Check.sentence("Promise 23", "false for another k");
        TypedAmounts x = new OneLand().with("12");
        for (int k : NONE) {
            Check.due("image " + k, x.image(k), false);
        }
        for (int k = 0; k < 3; k++) {
            Check.due("there is none of it", x.again(k), false);
        }
        Check.due("nothing changes", x.value(0, 0), 12000000);
    }

    private static void noneSuch() {
        Check.sentence("Promise 24", "false if there is none such");
        TypedAmounts x = new OneLand().with("12");
        for (int k = 0; k < 3; k++) {
            Check.due("again " + k + " ahead of all images", x.again(k), false);
        }
        for (int k = 0; k < 3; k++) {
            x.image(k);
        }
        x.key('3');
        for (int k : NONE) {
            Check.due("again " + k, x.again(k), false);
        }
        Check.due("nothing changes", x.value(0, 0), 123000000);
    }

    private static void ofANewObject() {
        Check.sentence("Promise 24", "All that is as image k has it (other images stay): true");
        TypedAmounts x = new TypedAmounts();
        Check.due("an image of nothing", x.image(0), true);
        fill(x);
        Check.due("again", x.again(0), true);
        for (int what = 0; what < 4; what++) {
            Check.due("count " + what, x.count(what), 0);
        }
        Check.due("take", x.take(), -1);
        Check.due("shown", x.shown(0), -1);
        Check.due("land", x.open(0, 0), false);
        Check.due("the image itself stays", x.again(0), true);
        Check.due("land 0 again", new OneLand().addTo(x), 0);
        Check.add(x, "9");
        Check.due("bounds leave all again", x.value(0, 0), 9000000);
        Check.due("row 0 again", x.row(), 0);
    }

    /** All there can be: six lands, 30 rows, 60 bytes, 100 bytes SHOWN. */
    private static void fill(TypedAmounts x) {
        for (int i = 0; i < 6; i++) {
            new OneLand().mark("AB" + (char) ('A' + i), false).addTo(x);
        }
        for (int i = 0; i < 30; i++) {
            Check.add(x, "ABF1." + (10 + i));
            x.row();
        }
        Check.add(x, "two hundred twenty three thousand three hundred twenty three");
        x.words(373373373);
        x.bounds(0, 7, 8);
        x.bounds(1, 1100000, 1390000);
    }

    private static void isFull(String when, TypedAmounts x) {
        int[] due = {6, 60, 30, 100};
        for (int what = 0; what < 4; what++) {
            Check.due(when + ", count " + what, x.count(what), due[what]);
        }
        Check.due(when + ", the line", x.spoken(), 223323);
        Check.due(when + ", the last byte SHOWN", x.shown(99), 'e');
        Check.due(when + ", the lands that fit", x.fit(1), 0b100000);
        Check.due(when + ", the rows", x.sum(5, 1), 30 * 1000000 + (10 + 39) * 15 * 10000);
        Check.due(when + ", no land more", new OneLand().addTo(x), -1);
        Check.due(when + ", no row more", x.row(), -1);
        Check.due(when + ", no byte more", x.key('x'), -1);
    }

    private static void ofAFullObject() {
        Check.sentence("Promise 23", "all that is told, as it is now");
        TypedAmounts x = new TypedAmounts();
        x.image(2);
        fill(x);
        isFull("filled", x);
        x.image(0);
        x.again(2);
        Check.due("empty", x.count(2), 0);
        new OneLand().addTo(x);
        Check.add(x, "5");
        x.row();
        x.words(1);
        x.again(0);
        isFull("again", x);
        x.clear();
        x.undo(60);
        x.words(0);
        x.bounds(1, 0, 0);
        x.again(0);
        isFull("once more", x);
    }

    private static void asItIsNow() {
        Check.sentence("Promise 23", "as it is now");
        TypedAmounts x = new OneLand().with("1");
        x.image(0);
        x.undo(1);
        x.key('2');
        x.again(0);
        Check.due("later keys are not in it", x.value(0, 0), 1000000);
        x.undo(1);
        x.key('3');
        x.image(0);
        x.undo(1);
        x.key('4');
        Check.due("again", x.again(0), true);
        Check.due("a later image is in its place", x.value(0, 0), 3000000);
        x.row();
        Check.due("again", x.again(0), true);
        Check.due("a row behind it is gone", x.count(2), 0);
        Check.due("and the line is back", x.value(0, 0), 3000000);
    }

    private static void otherImagesStay() {
        Check.sentence("Promise 24", "(other images stay)");
        TypedAmounts x = new OneLand().made();
        for (int k = 0; k < 3; k++) {
            x.key('1');
            x.image(k);
        }
        long[] values = {1000000, 11000000, 111000000};
        for (int first = 0; first < 3; first++) {
            for (int second = 0; second < 3; second++) {
                Check.due("again " + first, x.again(first), true);
                x.key('9');
                Check.due("again " + second, x.again(second), true);
                Check.due("value of image " + second + " behind " + first, x.value(0, 0), values[second]);
            }
        }
        x.again(0);
        Check.due("image 1 anew", x.image(1), true);
        long[] later = {1000000, 1000000, 111000000};
        for (int k = 0; k < 3; k++) {
            x.again(k);
            Check.due("value of image " + k, x.value(0, 0), later[k]);
        }
    }

    private static void boundsOfEachKind() {
        Check.sentence("Promise 24", "All that is as image k has it");
        String[] lines = {"5", "ABC5", "6/1/0001"};
        long[] values = {5000000, 5000000, 5};
        for (int kind = 0; kind < 3; kind++) {
            TypedAmounts x = new OneLand().with(lines[kind]);
            x.bounds(kind, values[kind], values[kind]);
            x.image(1);
            x.bounds(kind, values[kind] + 1, Long.MAX_VALUE);
            Check.due("below", x.value(0, kind), Check.LEAST);
            x.again(1);
            Check.due("within again", x.value(0, kind), values[kind]);
            x.bounds(kind, Long.MIN_VALUE, values[kind] - 1);
            Check.due("above", x.value(0, kind), Check.LEAST);
            x.again(1);
            Check.due("within again", x.value(0, kind), values[kind]);
        }
    }

    /** Six lands, then six others in their places, then the first six again. */
    private static void eachLand() {
        Check.sentence("Promise 24", "All that is as image k has it");
        TypedAmounts x = new TypedAmounts();
        x.image(0);
        addSix(x, 'A');
        x.image(1);
        x.again(0);
        addSix(x, 'K');
        x.image(2);
        areSix(x, 'K');
        x.again(1);
        areSix(x, 'A');
        x.again(2);
        areSix(x, 'K');
    }

    private static void addSix(TypedAmounts x, char first) {
        for (int i = 0; i < 6; i++) {
            Check.due("land " + i, new OneLand().mark("AB" + (char) (first + i), false).addTo(x), i);
        }
    }

    private static void areSix(TypedAmounts x, char first) {
        for (int i = 0; i < 6; i++) {
            x.show(i, 1, 7000000, 0);
            Check.due("land " + i + " from " + first, Check.display(x), "AB" + (char) (first + i) + "7");
        }
    }
}
