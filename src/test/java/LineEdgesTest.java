/** The edges of THE LINE (Term 1) and of Promises 1 (a new object), 3 (key), 4 (keys), 5 (undo), 22 (count). */
public final class LineEdgesTest {
    /** The WORDS of 223323 have 60 bytes, so that spoken() tells whether each of them is there. */
    private static final String SIXTY = "two hundred twenty three thousand three hundred twenty three";

    public static void main(String[] args) {
        newObject();
        noImages();
        newBounds();
        lineOfSixty();
        keyOfAByte();
        keyOfAnotherNumber();
        keyOverSixty();
        keysAheadOfZero();
        keysHighestFirst();
        keysOverSixty();
        undoEdges();
        undoLastBytes();
        undoLeavesNoTrace();
        takeLeavesNoTrace();
        rowLeavesNoTrace();
        countEdges();
        fiveHundredAndTwelveCalls();
        Check.end();
    }

    private static void newObject() {
        Check.sentence("Promise 1", "No LANDS, an empty LINE, no rows, nothing is SHOWN");
        TypedAmounts x = new TypedAmounts();
        Check.due("lands", x.count(0), 0);
        Check.due("bytes", x.count(1), 0);
        Check.due("rows", x.count(2), 0);
        Check.due("bytes SHOWN", x.count(3), 0);
        Check.due("byte 0", x.shown(0), -1);
        Check.due("take", x.take(), -1);
        Check.due("undo 1", x.undo(1), -1);
        for (int kind = 0; kind < 3; kind++) {
            Check.due("value", x.value(0, kind), Check.LEAST);
            Check.due("good", x.good(0, kind), -1);
            Check.due("fit", x.fit(kind), 0);
            Check.due("misfit", x.misfit(0, kind), -1);
            Check.due("sum", x.sum(0, kind), Check.LEAST);
            Check.due("state", x.state(-1, kind), 3);
            Check.due("show", x.show(0, kind, 0, 0), -1);
            Check.due("other", x.other(0, 0, kind, 0, 0), Check.LEAST);
        }
        Check.due("the first row", x.row(), 0);
    }

    private static void noImages() {
        Check.sentence("Promise 1", "no images");
        for (int k = -1; k <= 3; k++) {
            Check.due("again " + k, new TypedAmounts().again(k), false);
        }
    }

    private static void newBounds() {
        Check.sentence("Promise 1", "BOUNDS leave all");
        OneLand land = new OneLand();
        land.read(0, "-999,999,999.999999", -999999999999999L);
        land.read(0, "999,999,999.999999", 999999999999999L);
        land.read(1, "-ABC999,999,999.999999", -999999999999999L);
        land.read(1, "ABC999,999,999.999999", 999999999999999L);
        land.read(2, "1/1/0001", 0);
        land.read(2, "31/12/9999", 3652058);
    }

    private static void lineOfSixty() {
        Check.sentence("Term 1", "THE LINE has at most 60 bytes.");
        Check.due("bytes of the words", SIXTY.length(), 60);
        TypedAmounts x = new TypedAmounts();
        for (int i = 0; i < 60; i++) {
            Check.due("key " + i, x.key(SIXTY.charAt(i)), i + 1);
        }
        Check.due("all 60 are there", x.spoken(), 223323);
        Check.due("key", x.key('x'), -1);
        Check.due("keys", x.keys('x' << 24), -1);
        Check.due("all 60 are there, and no more", x.spoken(), 223323);
        Check.due("bytes", x.count(1), 60);
        Check.due("undo one", x.undo(1), 59);
        Check.due("59 are no such words", x.spoken(), -1);
        Check.due("one more again", x.key('e'), 60);
        Check.due("the same again", x.spoken(), 223323);
        Check.due("a row of 60", x.row(), 0);
        Check.due("an empty line takes again", x.key('x'), 1);
    }

    private static void keyOfAByte() {
        Check.sentence("Promise 3", "A byte, 0 .. 255, comes behind THE LINE: how many it has.");
        for (int sign = -2; sign <= 258; sign++) {
            TypedAmounts x = new OneLand().with("1");
            boolean is = sign >= 0 && sign <= 255;
            Check.due("key " + sign, x.key(sign), is ? 2 : -1);
            Check.due("bytes with " + sign, x.count(1), is ? 2 : 1);
            boolean digit = sign >= '0' && sign <= '9';
            long due = digit ? (10 + sign - '0') * 1000000L : is ? Check.LEAST : 1000000;
            Check.due("value with " + sign, x.value(0, 0), due);
        }
    }

    private static void keyOfAnotherNumber() {
        Check.sentence("Promise 3", "or another number");
        int[] others = {-1, 256, -256, '1' | 256, '1' | 65536, '1' - 256, Integer.MAX_VALUE, Integer.MIN_VALUE};
        for (int sign : others) {
            TypedAmounts x = new TypedAmounts();
            Check.due("key " + sign, x.key(sign), -1);
            Check.due("bytes", x.count(1), 0);
        }
    }

    private static TypedAmounts withBytes(int bytes) {
        TypedAmounts x = new TypedAmounts();
        for (int i = 0; i < bytes; i++) {
            x.key(SIXTY.charAt(i));
        }
        return x;
    }

    private static void keyOverSixty() {
        Check.sentence("Promise 3", "NONE: there would be more than 60");
        for (int bytes = 57; bytes <= 60; bytes++) {
            TypedAmounts x = withBytes(bytes);
            Check.due("key at " + bytes, x.key('x'), bytes < 60 ? bytes + 1 : -1);
            Check.due("bytes", x.count(1), Math.min(bytes + 1, 60));
        }
    }

    /** Four digits, of which those whose bit is not set are 0: only what stands ahead of the first 0 comes. */
    private static void keysAheadOfZero() {
        Check.sentence("Promise 4", "Up to four bytes come behind THE LINE, the highest first, ahead of the first that is 0");
        int[] counts = {0, 0, 0, 0, 0, 0, 0, 0, 1, 1, 1, 1, 2, 2, 3, 4};
        long[] values = {9, 91, 912, 9123, 91234};
        for (int set = 0; set < 16; set++) {
            int signs = 0;
            for (int place = 0; place < 4; place++) {
                signs = signs << 8 | ((set & 8 >> place) != 0 ? '1' + place : 0);
            }
            TypedAmounts x = new OneLand().with("9");
            Check.due("keys, set " + set, x.keys(signs), 1 + counts[set]);
            Check.due("value, set " + set, x.value(0, 0), values[counts[set]] * 1000000);
        }
    }

    private static void keysHighestFirst() {
        Check.sentence("Promise 4", "the highest first");
        TypedAmounts x = new TypedAmounts();
        x.keys('t' << 24 | 'w' << 16 | 'o' << 8 | ' ');
        x.keys('m' << 24 | 'i' << 16 | 'l' << 8 | 'l');
        Check.due("three come", x.keys('i' << 24 | 'o' << 16 | 'n' << 8), 11);
        Check.due("they are in their order", x.spoken(), 2000000);
        Check.due("bytes above 127 come", x.keys(0x80ff80ff), 15);
        Check.due("a 0 right ahead", x.keys(0x00ffffff), 15);
    }

    private static void keysOverSixty() {
        Check.sentence("Promise 4", "NONE, and none comes: there would be more than 60.");
        int[] signs = {0, 'x' << 24, 'x' << 24 | 'x' << 16, 'x' << 24 | 'x' << 16 | 'x' << 8, 'x' * 0x1010101};
        for (int bytes = 55; bytes <= 60; bytes++) {
            for (int coming = 0; coming <= 4; coming++) {
                TypedAmounts x = withBytes(bytes);
                boolean fits = bytes + coming <= 60;
                Check.due(coming + " keys at " + bytes, x.keys(signs[coming]), fits ? bytes + coming : -1);
                Check.due("bytes", x.count(1), fits ? bytes + coming : bytes);
            }
        }
        TypedAmounts x = withBytes(60);
        Check.due("four at 60", x.keys(signs[4]), -1);
        Check.due("none came", x.spoken(), 223323);
    }

    private static void undoEdges() {
        Check.sentence("Promise 5", "NONE: n is below 0, or it has not so many.");
        for (int bytes : new int[] {0, 1, 2, 59, 60}) {
            int[] refused = {Integer.MIN_VALUE, -60, -1, bytes + 1, 61, Integer.MAX_VALUE};
            for (int n : refused) {
                TypedAmounts x = withBytes(bytes);
                Check.due("undo " + n + " of " + bytes, x.undo(n), -1);
                Check.due("bytes stay", x.count(1), bytes);
            }
            Check.due("undo 0 of " + bytes, withBytes(bytes).undo(0), bytes);
            Check.due("undo all of " + bytes, withBytes(bytes).undo(bytes), 0);
            if (bytes > 0) {
                Check.due("undo 1 of " + bytes, withBytes(bytes).undo(1), bytes - 1);
                Check.due("undo all but one of " + bytes, withBytes(bytes).undo(bytes - 1), 1);
            }
        }
    }

    private static void undoLastBytes() {
        Check.sentence("Promise 5", "The last n bytes of THE LINE are no more: how many it has.");
        for (int n = 0; n < 9; n++) {
            TypedAmounts x = new OneLand().with("123456789");
            Check.due("undo " + n, x.undo(n), 9 - n);
            Check.due("bytes", x.count(1), 9 - n);
            Check.due("value", x.value(0, 0), Long.parseLong("123456789".substring(0, 9 - n)) * 1000000);
        }
        TypedAmounts x = new OneLand().with("12");
        x.undo(2);
        Check.due("none is left", x.good(0, 0), 0);
        Check.due("the next one is the first", x.key('7'), 1);
        Check.due("value", x.value(0, 0), 7000000);
    }

    private static void alike(String when, TypedAmounts x, TypedAmounts fresh) {
        for (int kind = 0; kind < 3; kind++) {
            Check.due("value " + when, x.value(0, kind), fresh.value(0, kind));
            Check.due("open " + when, x.open(0, kind), fresh.open(0, kind));
            Check.due("good " + when, x.good(0, kind), fresh.good(0, kind));
        }
        Check.due("spoken " + when, x.spoken(), fresh.spoken());
    }

    /** What was undone is not read as if it still stood behind THE LINE. */
    private static void undoLeavesNoTrace() {
        Check.sentence("Promise 5", "The last n bytes of THE LINE are no more");
        String[] texts = {"1,234,567.890123", "(1,234)", "(ABC 12,345.67)", "31/12/1999", "twenty one"};
        for (String text : texts) {
            OneLand land = new OneLand().minus(2);
            TypedAmounts x = land.with(text);
            for (int left = text.length() - 1; left >= 0; left--) {
                x.undo(1);
                alike("of '" + text + "' with " + left + " bytes", x, land.with(text.substring(0, left)));
            }
        }
    }

    private static void takeLeavesNoTrace() {
        Check.sentence("Promise 14", "What is SHOWN becomes THE LINE");
        TypedAmounts x = new OneLand().with("9,999,999.999999");
        x.show(0, 0, 1000000, 0);
        x.take();
        alike("of a shorter taken line", x, new OneLand().with("1"));
    }

    private static void rowLeavesNoTrace() {
        Check.sentence("Promise 17", "THE LINE becomes a row, and is empty then");
        TypedAmounts x = new OneLand().with("1,234");
        x.row();
        alike("behind a row", x, new OneLand().made());
        x.clear();
        x.key('1');
        x.row();
        Check.due("a shorter row in its place", x.sum(0, 0), 1000000);
    }

    private static void countEdges() {
        Check.sentence("Promise 22", "How many: 0 LANDS, 1 bytes of THE LINE, 2 rows, 3 bytes SHOWN. NONE for another what.");
        TypedAmounts x = new TypedAmounts();
        int[] due = {6, 60, 30, 100};
        for (int i = 0; i < 30; i++) {
            x.row();
        }
        for (int i = 0; i < 6; i++) {
            new OneLand().addTo(x);
        }
        Check.add(x, SIXTY);
        x.words(373373373);
        for (int what = 0; what < 4; what++) {
            Check.due("count " + what, x.count(what), due[what]);
        }
        for (int what : new int[] {-1, 4, 5, 256, Integer.MAX_VALUE, Integer.MIN_VALUE}) {
            Check.due("count " + what, x.count(what), -1);
        }
    }

    /** Nothing runs full by the number of calls alone: the last of them answers like the first. */
    private static void fiveHundredAndTwelveCalls() {
        Check.sentence("What it is", "An object is used for at most 512 calls after it has been made");
        TypedAmounts lands = new TypedAmounts();
        lands.image(0);
        for (int call = 2; call < 511; call += 2) {
            Check.due("land at call " + call, new OneLand().addTo(lands), 0);
            Check.due("again", lands.again(0), true);
        }
        Check.due("call 512", new OneLand().addTo(lands), 0);
        TypedAmounts rows = new TypedAmounts();
        for (int call = 1; call < 511; call += 2) {
            Check.due("row at call " + call, rows.row(), 0);
            rows.clear();
        }
        Check.due("row at call 511", rows.row(), 0);
        Check.due("call 512", rows.count(2), 1);
        TypedAmounts images = new TypedAmounts();
        for (int call = 1; call < 512; call++) {
            images.image(call % 3);
        }
        Check.due("call 512", images.again(2), true);
        TypedAmounts keys = new TypedAmounts();
        for (int call = 1; call < 511; call += 2) {
            Check.due("key at call " + call, keys.key('7'), 1);
            keys.undo(1);
        }
        Check.due("words", keys.words(7), 5);
        Check.due("call 512", keys.take(), 5);
    }
}
