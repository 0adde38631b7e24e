/**
 * The edges of READ, OPEN, BOUNDS and sets of LANDS (Term 2), and of Promises 6 (bounds), 7 (value),
 * 8 (open), 9 (good), 10 (state): a method for each sentence.
 */
public final class ReadingEdgesTest {
    private static final long L = Check.LEAST;
    /** A line for each kind, its value, and the values right beside it. */
    private static final String[] LINES = {"-5", "ABC5", "1/1/0002"};
    private static final long[] VALUES = {-5000000, 5000000, 365};
    /** None of them is a land where there are two. */
    private static final int[] NO_LANDS = {-1, 2, 5, 6, 31, 32, Integer.MAX_VALUE, Integer.MIN_VALUE};
    private static final int[] NO_KINDS = {-1, 3, 4, 256, Integer.MAX_VALUE, Integer.MIN_VALUE};

    public static void main(String[] args) {
        allOfIt();
        withinBounds();
        leastAboveGreatest();
        boundsOfNoKind();
        boundsFromNowOn();
        boundsAtTheEnds();
        openIsNotRead();
        whateverTheBounds();
        valueOfNoneSuch();
        openOfNoneSuch();
        goodOfNoneSuch();
        goodIsTheMost();
        goodOfFullAndEmpty();
        goodIgnoresBounds();
        sureAndDoubt();
        openState();
        wrongState();
        setOfLands();
        stateOfNoKind();
        Check.end();
    }

    private static void allOfIt() {
        Check.sentence("Term 2", "THE LINE is READ by a LAND as a KIND if all of it is one");
        for (int kind = 0; kind < 3; kind++) {
            OneLand land = new OneLand();
            land.read(kind, LINES[kind], VALUES[kind]);
            Check.due("a byte ahead", land.with(" " + LINES[kind]).value(0, kind), L);
            Check.due("a blank behind", land.with(LINES[kind] + " ").value(0, kind), L);
            Check.due("a byte 0 behind", land.with(LINES[kind] + "\u0000").value(0, kind), L);
            Check.due("a byte 255 behind", land.with(LINES[kind] + "\u00ff").value(0, kind), L);
            TypedAmounts full = land.with(LINES[kind]);
            for (int bytes = LINES[kind].length(); bytes < 60; bytes++) {
                full.key('x');
            }
            Check.due("60 bytes, of which the last are not of it", full.value(0, kind), L);
        }
    }

    private static void withinBounds() {
        Check.sentence("Term 2", "its VALUE then counts if it is within the BOUNDS of the KIND");
        for (int kind = 0; kind < 3; kind++) {
            long value = VALUES[kind];
            for (int from = -2; from <= 2; from++) {
                for (int to = from; to <= 2; to++) {
                    TypedAmounts x = new OneLand().with(LINES[kind]);
                    Check.due("bounds", x.bounds(kind, value + from, value + to), true);
                    boolean counts = from <= 0 && to >= 0;
                    String told = LINES[kind] + " within " + from + " .. " + to;
                    Check.due("value of " + told, x.value(0, kind), counts ? value : L);
                    Check.due("state of " + told, x.state(1, kind), counts ? 0 : 1);
                    x.row();
                    Check.due("fit of " + told, x.fit(kind), counts ? 1 : 0);
                    Check.due("misfit of " + told, x.misfit(0, kind), counts ? -1 : 0);
                    Check.due("sum of " + told, x.sum(0, kind), counts && kind < 2 ? value : L);
                }
            }
        }
    }

    private static void leastAboveGreatest() {
        Check.sentence("Promise 6", "false: there is none such, or least is above greatest.");
        long[] edges = {Long.MIN_VALUE, Long.MIN_VALUE + 1, -1, 0, 1, Long.MAX_VALUE - 1, Long.MAX_VALUE};
        for (int kind = 0; kind < 3; kind++) {
            for (long least : edges) {
                for (long greatest : edges) {
                    TypedAmounts x = new OneLand().with(LINES[kind]);
                    boolean can = least <= greatest;
                    Check.due("bounds " + least + " .. " + greatest, x.bounds(kind, least, greatest), can);
                    boolean counts = !can || VALUES[kind] >= least && VALUES[kind] <= greatest;
                    Check.due("value", x.value(0, kind), counts ? VALUES[kind] : L);
                }
            }
        }
    }

    private static void boundsOfNoKind() {
        Check.sentence("Promise 6", "false: there is none such");
        for (int no : NO_KINDS) {
            for (int kind = 0; kind < 3; kind++) {
                TypedAmounts x = new OneLand().with(LINES[kind]);
                Check.due("bounds of kind " + no, x.bounds(no, 0, 0), false);
                Check.due("those of kind " + kind + " stay", x.value(0, kind), VALUES[kind]);
            }
        }
    }

    private static void boundsFromNowOn() {
        Check.sentence("Promise 6", "BOUNDS of a KIND from now on: true");
        for (int kind = 0; kind < 3; kind++) {
            for (int asked = 0; asked < 3; asked++) {
                TypedAmounts x = new TypedAmounts();
                Check.due("bounds without lands", x.bounds(kind, 7, 7), true);
                new OneLand().addTo(x);
                Check.add(x, LINES[asked]);
                Check.due("kind " + asked + " by bounds of " + kind, x.value(0, asked), kind == asked ? L : VALUES[asked]);
                Check.due("refused", x.bounds(kind, 8, 7), false);
                Check.due("as before", x.value(0, asked), kind == asked ? L : VALUES[asked]);
                Check.due("others", x.bounds(kind, VALUES[kind], VALUES[kind]), true);
                Check.due("kind " + asked + " by others", x.value(0, asked), VALUES[asked]);
            }
        }
    }

    private static void boundsAtTheEnds() {
        Check.sentence("Term 2", "within the BOUNDS");
        TypedAmounts x = new OneLand().with("999999999.999999");
        x.bounds(0, 999999999999999L, Long.MAX_VALUE);
        Check.due("the greatest", x.value(0, 0), 999999999999999L);
        x.bounds(0, Long.MIN_VALUE, 999999999999998L);
        Check.due("one too great", x.value(0, 0), L);
        TypedAmounts y = new OneLand().with("-999999999.999999");
        y.bounds(0, Long.MIN_VALUE, -999999999999999L);
        Check.due("the least", y.value(0, 0), -999999999999999L);
        y.bounds(0, -999999999999998L, Long.MAX_VALUE);
        Check.due("one too small", y.value(0, 0), L);
        TypedAmounts z = new OneLand().with("-0");
        z.bounds(0, 0, 0);
        Check.due("0 with MINUS is 0", z.value(0, 0), 0);
        z.bounds(0, Long.MIN_VALUE, -1);
        Check.due("and not below", z.value(0, 0), L);
        z.bounds(0, Long.MIN_VALUE, Long.MIN_VALUE);
        Check.due("bounds that leave none", z.value(0, 0), L);
        Check.due("out of them is an open state", z.state(1, 0), 1);
    }

    private static void openIsNotRead() {
        Check.sentence("Term 2", "It is OPEN for a LAND and KIND if it is not READ, and, with some bytes more, could be");
        OneLand land = new OneLand();
        for (int kind = 0; kind < 3; kind++) {
            land.open(kind, "");
        }
        land.read(0, "1", 1000000);
        land.read(0, "1.5", 1500000);
        land.read(1, "ABC1", 1000000);
        land.open(1, "ABC");
        new OneLand().days(2, '-').read(2, "2001-1-1", 730485);
        new OneLand().minus(1).read(0, "1", 1000000);
        land.open(0, "1,");
        land.wrongEnd(0, "1234,");
        land.wrong(0, "x", 0);
    }

    private static void whateverTheBounds() {
        Check.sentence("Term 2", "could be (whatever the BOUNDS)");
        String[] begun = {"-", "ABC", "1/1/000"};
        for (int kind = 0; kind < 3; kind++) {
            TypedAmounts x = new OneLand().with(begun[kind]);
            x.bounds(kind, Long.MIN_VALUE, Long.MIN_VALUE);
            Check.due("open of " + begun[kind], x.open(0, kind), true);
            Check.due("state of " + begun[kind], x.state(1, kind), 1);
            TypedAmounts y = new OneLand().with(LINES[kind]);
            y.bounds(kind, Long.MIN_VALUE, Long.MIN_VALUE);
            Check.due("READ out of BOUNDS is not OPEN", y.open(0, kind), false);
            Check.due("but its state is", y.state(1, kind), 1);
            Check.due("value", y.value(0, kind), L);
        }
    }

    private static TypedAmounts two(String text) {
        TypedAmounts x = new OneLand().made();
        new OneLand().addTo(x);
        Check.add(x, text);
        return x;
    }

    private static void valueOfNoneSuch() {
        Check.sentence("Promise 7", "The least long if it is not, or there is none such (LAND, KIND).");
        TypedAmounts x = two("1");
        Check.due("value by the first land", x.value(0, 0), 1000000);
        Check.due("value by the last land", x.value(1, 0), 1000000);
        Check.due("not READ as money", x.value(1, 1), L);
        Check.due("not READ as a day", x.value(1, 2), L);
        for (int land : NO_LANDS) {
            Check.due("value of land " + land, x.value(land, 0), L);
        }
        for (int kind : NO_KINDS) {
            Check.due("value of kind " + kind, x.value(1, kind), L);
        }
        x.undo(1);
        Check.due("of an empty line", x.value(0, 0), L);
    }

    private static void openOfNoneSuch() {
        Check.sentence("Promise 8", "False, too, if there is none such.");
        TypedAmounts x = two("");
        for (int kind = 0; kind < 3; kind++) {
            Check.due("open for the first land", x.open(0, kind), true);
            Check.due("open for the last land", x.open(1, kind), true);
            for (int land : NO_LANDS) {
                Check.due("open of land " + land, x.open(land, kind), false);
            }
        }
        for (int kind : NO_KINDS) {
            Check.due("open of kind " + kind, x.open(1, kind), false);
        }
    }

    private static void goodOfNoneSuch() {
        Check.sentence("Promise 9", "NONE if there is none such.");
        TypedAmounts x = two("");
        for (int kind = 0; kind < 3; kind++) {
            Check.due("good by the first land", x.good(0, kind), 0);
            Check.due("good by the last land", x.good(1, kind), 0);
            for (int land : NO_LANDS) {
                Check.due("good of land " + land, x.good(land, kind), -1);
            }
        }
        for (int kind : NO_KINDS) {
            Check.due("good of kind " + kind, x.good(1, kind), -1);
        }
    }

    private static void goodIsTheMost() {
        Check.sentence("Promise 9", "How many bytes of THE LINE, from the first on, are the most that are READ, or OPEN");
        String[] lines = {"-1,234,567.890123x", "-ABC 1,234,567.890123x", "29/02/2000x"};
        for (int kind = 0; kind < 3; kind++) {
            int all = lines[kind].length() - 1;
            for (int bytes = 0; bytes <= all; bytes++) {
                TypedAmounts x = new OneLand().with(lines[kind].substring(0, bytes));
                Check.due("good of " + bytes, x.good(0, kind), bytes);
                x.key('x');
                Check.due("good of " + bytes + " and x", x.good(0, kind), bytes);
                x.key('1');
                Check.due("good of " + bytes + " and x1", x.good(0, kind), bytes);
            }
        }
    }

    private static void goodOfFullAndEmpty() {
        Check.sentence("Promise 9", "How many bytes of THE LINE");
        TypedAmounts x = new OneLand().made();
        for (int kind = 0; kind < 3; kind++) {
            Check.due("good of an empty line", x.good(0, kind), 0);
        }
        for (int i = 0; i < 60; i++) {
            x.key('1');
        }
        Check.due("good of 60 as a number", x.good(0, 0), 9);
        Check.due("good of 60 as money", x.good(0, 1), 0);
        Check.due("good of 60 as a day", x.good(0, 2), 2);
    }

    private static void goodIgnoresBounds() {
        Check.sentence("Promise 9", "(BOUNDS not asked)");
        for (int kind = 0; kind < 3; kind++) {
            TypedAmounts x = new OneLand().with(LINES[kind] + "x");
            x.bounds(kind, Long.MAX_VALUE, Long.MAX_VALUE);
            Check.due("good of " + LINES[kind], x.good(0, kind), LINES[kind].length());
        }
    }

    /** Lands 0 (1,234 is 1234), 1 (1,234 is 1.234), 2 (as 0, by two), 3 (no group sign, point '.'). */
    private static TypedAmounts four(String text) {
        TypedAmounts x = new OneLand().made();
        new OneLand().signs(',', '.').addTo(x);
        new OneLand().grouping(1).addTo(x);
        new OneLand().signs('.', 0).addTo(x);
        Check.add(x, text);
        return x;
    }

    private static void sureAndDoubt() {
        Check.sentence("Term 2", "0 SURE: VALUES that count are there, and all alike; 2 in DOUBT: they are not alike");
        TypedAmounts x = four("1,234");
        // By sets of lands 0 .. 2: land 1 has another value than 0 and 2.
        int[] due = {3, 0, 0, 2, 0, 0, 2, 2};
        for (int set = 0; set < 8; set++) {
            Check.due("state by set " + set, x.state(set, 0), due[set]);
            Check.due("a WRONG one more changes nothing, set " + set, x.state(set | 8, 0), due[set]);
        }
        x.bounds(0, 1234000, 1234000);
        Check.due("one counts alone", x.state(15, 0), 0);
        x.bounds(0, 1234001, 1234000000L);
        Check.due("the others count alone", x.state(15, 0), 0);
        x.bounds(0, 1234000, 1234000000L);
        Check.due("both count", x.state(15, 0), 2);
        x.bounds(0, 1234001, 1233999999L);
        Check.due("none counts", x.state(15, 0), 1);
        Check.due("an OPEN one does not make it sure", four("1,2").state(0b0011, 0), 0);
    }

    private static void openState() {
        Check.sentence("Term 2", "1 OPEN, if it is OPEN for some LAND of the set, or READ by one out of BOUNDS");
        Check.due("OPEN for one", four("1,23").state(0b0001, 0), 1);
        Check.due("OPEN for one, WRONG by another", four("1,23").state(0b1001, 0), 1);
        Check.due("OPEN for none of the set", four("1,23").state(0b1000, 0), 3);
        TypedAmounts x = four("1,234");
        x.bounds(0, 1, 2);
        Check.due("READ out of BOUNDS", x.state(0b0001, 0), 1);
        Check.due("READ out of BOUNDS, WRONG by another", x.state(0b1001, 0), 1);
        Check.due("only WRONG", x.state(0b1000, 0), 3);
        x = four("1,23");
        x.bounds(0, 1, 2);
        Check.due("READ out of BOUNDS by one, OPEN for another", x.state(0b0011, 0), 1);
        for (int kind = 0; kind < 3; kind++) {
            Check.due("an empty line", four("").state(15, kind), 1);
        }
    }

    private static void wrongState() {
        Check.sentence("Term 2", "else 3 WRONG");
        for (int kind = 0; kind < 3; kind++) {
            Check.due("WRONG by all", four("x").state(15, kind), 3);
            Check.due("by no land", four("").state(0, kind), 3);
            Check.due("without lands", new TypedAmounts().state(-1, kind), 3);
        }
    }

    private static void setOfLands() {
        Check.sentence("Promise 10", "(bits; those that are none count for nothing)");
        TypedAmounts x = new TypedAmounts();
        for (int i = 0; i < 6; i++) {
            new OneLand().mark("AB" + (char) ('A' + i), false).addTo(x);
        }
        for (int i = 0; i < 6; i++) {
            Check.type(x, "AB" + (char) ('A' + i) + "1");
            for (int bit = 0; bit < 32; bit++) {
                Check.due("land " + i + " by bit " + bit, x.state(1 << bit, 1), bit == i ? 0 : 3);
            }
            Check.due("land " + i + " by all bits", x.state(-1, 1), 0);
            Check.due("land " + i + " by all but its own", x.state(~(1 << i), 1), 3);
        }
        for (int lands = 0; lands <= 5; lands++) {
            TypedAmounts y = new TypedAmounts();
            for (int i = 0; i < lands; i++) {
                new OneLand().addTo(y);
            }
            Check.add(y, "1");
            Check.due("bits above " + lands + " lands", y.state(-1 << lands, 0), 3);
            Check.due("all bits with " + lands + " lands", y.state(-1, 0), lands == 0 ? 3 : 0);
        }
    }

    private static void stateOfNoKind() {
        Check.sentence("Promise 10", "NONE for another KIND.");
        for (int kind : NO_KINDS) {
            Check.due("kind " + kind, four("1").state(15, kind), -1);
            Check.due("kind " + kind + ", no lands", new TypedAmounts().state(0, kind), -1);
        }
        Check.due("kind 0", four("1").state(15, 0), 0);
        Check.due("kind 2", four("1").state(15, 2), 1);
    }
}
