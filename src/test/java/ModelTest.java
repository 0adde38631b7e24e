import java.util.Random;

/** Promises 1 to 24: runs of 512 calls each, every answer compared with the one of Model. */
public final class ModelTest {
    private static final int RUNS = 1200;
    private static final int CALLS = 512;
    private static final int MOST_CALLS_OF_A_STEP = 12;
    private static final int[] EDGES = {-1, 0, 1, 2, 3, 4, 5, 6, 7, 29, 30, 59, 60, 61, 255, 256, 999999999, 1000000000,
        Integer.MAX_VALUE, Integer.MIN_VALUE};
    private static final long[] LONG_EDGES = {0, 1, -1, 499999, 500000, -500000, 999999999999999L, -999999999999999L,
        1000000000000000L, -1000000000000000L, 999999999499999L, 999999999500000L, 3652058, 3652059, 1L << 32,
        Long.MAX_VALUE, Long.MIN_VALUE};
    private static final int[] POINTS = {',', '.', '.', ';'};
    private static final int[] GROUPS = {0, ',', '.', ' ', '\'', '_'};
    private static final int[] DAY_SIGNS = {'/', '.', '-', ','};
    private static final String[] MARKS = {"EUR", "EUA", "USD", "UUU", "AZA", "E?R"};
    private static final String[] NAMES = ("one two three eleven nineteen twenty thirty ninety hundred thousand million zero").split(" ");

    private final Random random;
    private final String run;
    private final TypedAmounts x = new TypedAmounts();
    private final Model model = new Model();
    private int calls = 0;

    private ModelTest(int seed) {
        random = new Random(seed);
        run = "run " + seed + ", call ";
    }

    public static void main(String[] args) {
        for (int seed = 0; seed < RUNS; seed++) {
            new ModelTest(seed).compare();
        }
        Check.end();
    }

    private void compare() {
        int lands = random.nextInt(8);
        for (int i = 0; i < lands; i++) {
            land(true);
        }
        // No step has more calls than this, so that none is asked of an object behind its last.
        while (calls < CALLS - MOST_CALLS_OF_A_STEP) {
            step(random.nextInt(34));
        }
        while (calls < CALLS) {
            count(small(5));
        }
    }

    private void due(String call, long got, long want) {
        calls++;
        Check.due(run + calls + ": " + call, got, want);
    }

    private void due(String call, boolean got, boolean want) {
        due(call, got ? 1 : 0, want ? 1 : 0);
    }

    private int pick(int[] from) {
        return from[random.nextInt(from.length)];
    }

    private int small(int bound) {
        return random.nextInt(12) == 0 ? pick(EDGES) : random.nextInt(bound);
    }

    private long amount() {
        if (random.nextInt(8) == 0) {
            return LONG_EDGES[random.nextInt(LONG_EDGES.length)];
        }
        long value = random.nextLong() % 1000000000000000L;
        for (int i = random.nextInt(16); i > 0; i--) {
            value /= 10;
        }
        return random.nextInt(3) == 0 ? value / 1000000 * 1000000 : value;
    }

    private long valueFor(int kind) {
        return kind == 2 && random.nextInt(10) > 0 ? random.nextInt(3652059) : amount();
    }

    private void land(boolean likely) {
        int bound = likely ? 0 : 1;
        int point = POINTS[random.nextInt(3 + bound)];
        int group = GROUPS[random.nextInt(5 + bound)];
        int grouping = random.nextInt(2 + bound);
        int minus = random.nextInt(3 + bound);
        int mark = Check.mark(MARKS[random.nextInt(5 + bound)]);
        boolean behind = random.nextBoolean();
        int order = random.nextInt(3 + bound);
        int daySign = DAY_SIGNS[random.nextInt(3 + bound)];
        due("land", x.land(point, group, grouping, minus, mark, behind, order, daySign),
                model.land(point, group, grouping, minus, mark, behind, order, daySign));
    }

    private void step(int which) {
        if (which < 10) {
            change(which);
        } else if (which < 22) {
            ask(which);
        } else {
            keep(which);
        }
    }

    private void change(int which) {
        switch (which) {
            case 0 -> land(false);
            case 1 -> key(random.nextInt(15) == 0 ? pick(EDGES) : "0123456789,.' -()EURA/".charAt(random.nextInt(22)));
            case 2 -> keys(random.nextInt(6) == 0 ? random.nextInt() : digits());
            case 3 -> undo(small(4));
            case 4 -> bounds();
            case 5 -> show(small(6), small(3));
            case 6 -> words();
            case 7 -> due("take", x.take(), model.take());
            case 8 -> name();
            default -> undo(model.count(1));
        }
    }

    private void ask(int which) {
        int land = small(6);
        int kind = small(3);
        switch (which) {
            case 10 -> due("value", x.value(land, kind), model.value(land, kind));
            case 11 -> due("open", x.open(land, kind), model.open(land, kind));
            case 12 -> due("good", x.good(land, kind), model.good(land, kind));
            case 13 -> state(random.nextInt(4) == 0 ? random.nextInt() : random.nextInt(64), kind);
            case 14 -> shown(small(30));
            case 15 -> due("spoken", x.spoken(), model.spoken());
            case 16 -> other(land, small(6), kind);
            case 17 -> due("fit", x.fit(kind), model.fit(kind));
            case 18 -> due("misfit", x.misfit(land, kind), model.misfit(land, kind));
            case 19 -> due("sum", x.sum(land, kind), model.sum(land, kind));
            case 20 -> count(small(5));
            default -> askAll(random.nextInt(3));
        }
    }

    private void keep(int which) {
        switch (which) {
            case 22, 23 -> due("row", x.row(), model.row());
            case 24 -> clear(random.nextInt(6) == 0);
            case 25 -> image(random.nextInt(5) - 1);
            case 26 -> again(random.nextInt(5) - 1);
            case 27, 28, 29 -> pasted(random.nextInt(6), random.nextInt(3));
            case 30, 31 -> typed(random.nextInt(6), random.nextInt(3));
            default -> askAll(random.nextInt(3));
        }
    }

    private void key(int sign) {
        due("key " + sign, x.key(sign), model.key(sign));
    }

    private void keys(int signs) {
        due("keys " + signs, x.keys(signs), model.keys(signs));
    }

    private int digits() {
        int signs = 0;
        for (int i = 0; i < 4; i++) {
            signs = signs << 8 | '0' + random.nextInt(10);
        }
        return random.nextInt(3) == 0 ? signs & ~(255 << 8 * random.nextInt(4)) : signs;
    }

    private void undo(int n) {
        due("undo " + n, x.undo(n), model.undo(n));
    }

    /** Often right at a VALUE that is there, or one beside it. */
    private void bounds() {
        int kind = small(3);
        long near = random.nextInt(4) == 0 ? amount() : model.value(random.nextInt(6), kind);
        long from = random.nextInt(3) == 0 ? Long.MIN_VALUE : near + random.nextInt(3) - 1;
        long to = random.nextInt(3) == 0 ? Long.MAX_VALUE : near + random.nextInt(3) - 1;
        due("bounds " + from + " " + to, x.bounds(kind, from, to), model.bounds(kind, from, to));
    }

    private void show(int land, int kind) {
        long value = valueFor(kind);
        int n = small(7);
        due("show " + value, x.show(land, kind, value, n), model.show(land, kind, value, n));
    }

    private void words() {
        int n = random.nextInt(5) == 0 ? pick(EDGES) : random.nextInt(1000000000) >> random.nextInt(30);
        due("words " + n, x.words(n), model.words(n));
    }

    private void name() {
        String name = (random.nextBoolean() ? " " : "") + NAMES[random.nextInt(NAMES.length)];
        for (int i = 0; i < name.length(); i++) {
            key(name.charAt(i));
        }
    }

    private void state(int set, int kind) {
        due("state " + set, x.state(set, kind), model.state(set, kind));
    }

    private void shown(int k) {
        due("shown " + k, x.shown(k), model.shown(k));
    }

    private void other(int a, int b, int kind) {
        long value = valueFor(kind);
        int n = small(7);
        due("other " + value, x.other(a, b, kind, value, n), model.other(a, b, kind, value, n));
    }

    private void count(int what) {
        due("count " + what, x.count(what), model.count(what));
    }

    private void clear(boolean really) {
        if (really) {
            calls++;
            x.clear();
            model.clear();
        }
    }

    private void image(int k) {
        due("image " + k, x.image(k), model.image(k));
    }

    private void again(int k) {
        due("again " + k, x.again(k), model.again(k));
    }

    private void askAll(int kind) {
        state(63, kind);
        due("fit", x.fit(kind), model.fit(kind));
        int land = random.nextInt(6);
        due("sum", x.sum(land, kind), model.sum(land, kind));
        due("value", x.value(land, kind), model.value(land, kind));
        due("good", x.good(land, kind), model.good(land, kind));
        for (int what = 0; what < 4; what++) {
            count(what);
        }
    }

    private void pasted(int land, int kind) {
        typed(land, kind);
        due("row", x.row(), model.row());
    }

    /** A line that a land shows, now and then with its last bytes typed anew. */
    private void typed(int land, int kind) {
        long value = valueFor(kind);
        due("show " + value, x.show(land, kind, value, 2), model.show(land, kind, value, 2));
        due("take", x.take(), model.take());
        if (random.nextInt(3) == 0) {
            undo(random.nextInt(5));
            key("0123456789,. -)".charAt(random.nextInt(15)));
        }
    }
}
