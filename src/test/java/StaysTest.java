import java.util.function.Consumer;

/**
 * Promises 1 to 24: what a call does not name stays as it is. Each call is made on an object in
 * which something of everything is; what can be asked then is compared with the same object without
 * the call. Parts: L LANDS, T THE LINE, R rows, S what is SHOWN, B BOUNDS, I the images.
 */
public final class StaysTest {
    private static final String ALL = "LTRSBI";
    private static final long[] ASKED = {-1234500000L, 1234000, 92};

    public static void main(String[] args) {
        asking();
        refused();
        changing();
        twoObjects();
        Check.end();
    }

    /** Three lands, of which two read THE LINE as different numbers, one of them out of BOUNDS. */
    private static TypedAmounts filled() {
        TypedAmounts x = new TypedAmounts();
        Check.english(x);
        Check.due("an image with one land", x.image(0), true);
        Check.german(x);
        Check.add(x, "3/4/2000");
        x.row();
        x.words(3);
        Check.due("an image with a row", x.image(1), true);
        Check.american(x);
        Check.add(x, "1.5");
        x.row();
        x.bounds(0, 0, 500000000);
        x.bounds(1, -7, 7);
        x.bounds(2, 730000, 740000);
        x.words(7);
        Check.add(x, "1,234");
        return x;
    }

    private static String lands(TypedAmounts x) {
        StringBuilder told = new StringBuilder("L" + Math.min(x.count(0), 3));
        for (int kind = 0; kind < 3; kind++) {
            for (int b = 0; b < 3; b++) {
                told.append(' ').append(x.other(0, b, kind, ASKED[kind], 3));
                told.append(' ').append(x.other(b, b, kind, ASKED[kind], 3));
            }
        }
        return told.toString();
    }

    private static String line(TypedAmounts x) {
        StringBuilder told = new StringBuilder("T" + x.count(1) + " " + x.spoken());
        for (int land = 0; land < 3; land++) {
            for (int kind = 0; kind < 3; kind++) {
                told.append(' ').append(x.good(land, kind)).append(x.open(land, kind));
            }
        }
        return told.toString();
    }

    private static String rows(TypedAmounts x) {
        StringBuilder told = new StringBuilder("R" + x.count(2));
        for (int kind = 0; kind < 3; kind++) {
            told.append(' ').append(x.fit(kind) & 7).append(' ').append(x.misfit(0, kind)).append(' ').append(x.sum(0, kind));
        }
        return told.toString();
    }

    private static String bounds(TypedAmounts x) {
        StringBuilder told = new StringBuilder("B");
        for (int kind = 0; kind < 3; kind++) {
            for (int land = 0; land < 3; land++) {
                told.append(' ').append(x.value(land, kind));
            }
            told.append(' ').append(x.state(7, kind));
        }
        return told.toString();
    }

    /** Asked last, since each image takes the place of all the rest. */
    private static String images(TypedAmounts x) {
        StringBuilder told = new StringBuilder("I");
        for (int k = 0; k < 3; k++) {
            told.append(' ').append(x.again(k)).append(' ').append(lands(x)).append(line(x)).append(rows(x)).append(Check.display(x));
        }
        return told.toString();
    }

    private static String part(char which, TypedAmounts x) {
        return switch (which) {
            case 'L' -> lands(x);
            case 'T' -> line(x);
            case 'R' -> rows(x);
            case 'S' -> "S" + x.count(3) + Check.display(x);
            case 'B' -> bounds(x);
            default -> images(x);
        };
    }

    private static void stays(String what, String parts, Consumer<TypedAmounts> call) {
        TypedAmounts with = filled();
        TypedAmounts without = filled();
        call.accept(with);
        for (int i = 0; i < parts.length(); i++) {
            char which = parts.charAt(i);
            Check.due(which + " behind " + what, part(which, with), part(which, without));
        }
    }

    private static void asking() {
        Check.sentence("Promise 7", "VALUE of THE LINE as READ by a LAND");
        stays("value", ALL, x -> Check.due("value", x.value(1, 0), 1234000));
        stays("open", ALL, x -> Check.due("open", x.open(1, 0), false));
        stays("good", ALL, x -> Check.due("good", x.good(1, 2), 1));
        stays("state", ALL, x -> Check.due("state", x.state(63, 0), 0));
        stays("shown", ALL, x -> Check.due("shown", x.shown(4), 'n'));
        stays("spoken", ALL, x -> Check.due("spoken", x.spoken(), -1));
        stays("other", ALL, x -> Check.due("other", x.other(0, 1, 0, 1234000, 3), 1234000000L));
        stays("fit", ALL, x -> Check.due("fit", x.fit(2), 0));
        stays("misfit", ALL, x -> Check.due("misfit", x.misfit(0, 2), 1));
        stays("sum", ALL, x -> Check.due("sum", x.sum(0, 0), Check.LEAST));
        stays("count", ALL, x -> Check.due("count", x.count(2), 2));
    }

    private static void refused() {
        Check.sentence("Promise 2", "NONE: there are 6, or something can't be.");
        stays("no land", ALL, x -> Check.due("land", x.land('.', '.', 0, 0, Check.mark("ABC"), false, 0, '/'), -1));
        stays("no key", ALL, x -> Check.due("key", x.key(256), -1));
        stays("no undo", ALL, x -> Check.due("undo", x.undo(6), -1));
        stays("no bounds", ALL, x -> Check.due("bounds", x.bounds(0, 1, 0), false));
        stays("bounds of no kind", ALL, x -> Check.due("bounds", x.bounds(3, 0, 0), false));
        stays("no value shown", ALL, x -> Check.due("show", x.show(0, 0, 1, 7), -1));
        stays("no such day", ALL, x -> Check.due("show", x.show(0, 2, -1, 0), -1));
        stays("no words", ALL, x -> Check.due("words", x.words(-1), -1));
        stays("no other", ALL, x -> Check.due("other", x.other(0, 3, 0, 1000000, 0), Check.LEAST));
        stays("no image", ALL, x -> Check.due("image", x.image(3), false));
        stays("no such image", ALL, x -> Check.due("again", x.again(2), false));
    }

    private static void changing() {
        Check.sentence("Promise 3", "A byte, 0 .. 255, comes behind THE LINE");
        stays("land", "TRSBI", x -> Check.due("land", Check.indian(x), 3));
        stays("key", "LRSI", x -> Check.due("key", x.key('5'), 6));
        stays("keys", "LRSI", x -> Check.due("keys", x.keys('5' << 24 | '6' << 16), 7));
        stays("undo", "LRSI", x -> Check.due("undo", x.undo(2), 3));
        stays("bounds", "LTSI", x -> Check.due("bounds", x.bounds(0, 1, 2), true));
        stays("show", "LTRBI", x -> Check.due("show", x.show(0, 0, 1500000, 1), 3));
        stays("words", "LTRBI", x -> Check.due("words", x.words(12), 6));
        stays("take", "LRSI", x -> Check.due("take", x.take(), 5));
        stays("row", "LSI", x -> Check.due("row", x.row(), 2));
        stays("clear", "LTSBI", TypedAmounts::clear);
        stays("image", "LTRSB", x -> Check.due("image", x.image(0), true));
        stays("again", "I", x -> Check.due("again", x.again(1), true));
    }

    /** One object's calls are nothing to another: a new one is empty, and a filled one stays. */
    private static void twoObjects() {
        Check.sentence("Promise 1", "No LANDS, an empty LINE, no rows, nothing is SHOWN; BOUNDS leave all; no images.");
        TypedAmounts first = filled();
        TypedAmounts second = new TypedAmounts();
        for (int what = 0; what < 4; what++) {
            Check.due("count " + what + " of a new object beside a filled one", second.count(what), 0);
        }
        for (int k = 0; k < 3; k++) {
            Check.due("image " + k, second.again(k), false);
        }
        Check.due("land", Check.plain(second), 0);
        second.bounds(0, 5000000, 5000000);
        Check.add(second, "5");
        second.image(2);
        second.row();
        second.words(90);
        TypedAmounts alone = filled();
        for (int i = 0; i < ALL.length(); i++) {
            Check.due(ALL.charAt(i) + " beside another", part(ALL.charAt(i), first), part(ALL.charAt(i), alone));
        }
        Check.due("the second's row", second.sum(0, 0), 5000000);
        Check.due("the second's words", Check.display(second), "ninety");
    }
}
