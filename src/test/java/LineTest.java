/** Promises 1 (a new object), 3 (key), 4 (keys), 5 (undo), 22 (count). */
public final class LineTest {
    public static void main(String[] args) {
        newObject();
        key();
        keys();
        undo();
        count();
        Check.end();
    }

    private static void newObject() {
        TypedAmounts x = new TypedAmounts();
        for (int what = 0; what < 4; what++) {
            Check.due("new count " + what, x.count(what), 0);
        }
        Check.due("new shown", x.shown(0), -1);
        Check.due("new take", x.take(), -1);
        Check.due("new spoken", x.spoken(), -1);
        Check.due("new value", x.value(0, 0), Check.LEAST);
        Check.due("new open", x.open(0, 0), false);
        Check.due("new good", x.good(0, 0), -1);
        Check.due("new state", x.state(-1, 0), 3);
        Check.due("new fit", x.fit(0), 0);
        Check.due("new misfit", x.misfit(0, 0), -1);
        Check.due("new sum", x.sum(0, 0), Check.LEAST);
        for (int k = -1; k < 4; k++) {
            Check.due("new again " + k, x.again(k), false);
        }
        Check.english(x);
        Check.type(x, "-999,999,999.999999");
        Check.due("bounds leave the least", x.value(0, 0), -999999999999999L);
        Check.type(x, "999,999,999.999999");
        Check.due("bounds leave the greatest", x.value(0, 0), 999999999999999L);
        Check.type(x, "31/12/9999");
        Check.due("bounds leave the last day", x.value(0, 2), 3652058);
    }

    private static void key() {
        TypedAmounts x = new TypedAmounts();
        Check.due("key -1", x.key(-1), -1);
        Check.due("key 256", x.key(256), -1);
        Check.due("key least", x.key(Integer.MIN_VALUE), -1);
        Check.due("nothing came", x.count(1), 0);
        Check.due("key 0", x.key(0), 1);
        Check.due("key 255", x.key(255), 2);
        for (int i = 3; i <= 60; i++) {
            Check.due("key number " + i, x.key('a'), i);
        }
        Check.due("key number 61", x.key('a'), -1);
        Check.due("60 stay", x.count(1), 60);
    }

    private static void keys() {
        TypedAmounts x = new TypedAmounts();
        Check.english(x);
        Check.due("keys 0", x.keys(0), 0);
        Check.due("keys ahead of a 0", x.keys('1' << 24 | '9'), 1);
        Check.due("a 0 first", x.keys('9'), 1);
        Check.due("keys of two", x.keys('2' << 24 | '3' << 16 | '8'), 3);
        Check.due("value", x.value(0, 0), 123000000L);
        Check.due("keys of three", x.keys('4' << 24 | '5' << 16 | '6' << 8), 6);
        Check.due("value", x.value(0, 0), 123456000000L);
        Check.due("keys of four", x.keys('.' << 24 | '7' << 16 | '8' << 8 | '9'), 10);
        Check.due("value", x.value(0, 0), 123456789000L);
        Check.due("keys above 127", x.keys(0xffffffff), 14);
        for (int i = 0; i < 11; i++) {
            x.keys('x' << 24 | 'x' << 16 | 'x' << 8 | 'x');
        }
        Check.due("58", x.count(1), 58);
        Check.due("keys over 60", x.keys('x' << 24 | 'x' << 16 | 'x' << 8), -1);
        Check.due("none came", x.count(1), 58);
        Check.due("keys up to 60", x.keys('x' << 24 | 'x' << 16), 60);
        Check.due("no keys at 60", x.keys(0), 60);
        Check.due("one key at 60", x.keys('x' << 24), -1);
        x.undo(46);
        Check.due("bytes of keys", x.good(0, 0), 10);
    }

    private static void undo() {
        TypedAmounts x = new TypedAmounts();
        Check.english(x);
        Check.due("undo 0 of 0", x.undo(0), 0);
        Check.due("undo 1 of 0", x.undo(1), -1);
        Check.type(x, "12345");
        Check.due("undo -1", x.undo(-1), -1);
        Check.due("undo least", x.undo(Integer.MIN_VALUE), -1);
        Check.due("undo 6", x.undo(6), -1);
        Check.due("undo greatest", x.undo(Integer.MAX_VALUE), -1);
        Check.due("all stay", x.value(0, 0), 12345000000L);
        Check.due("undo 0", x.undo(0), 5);
        Check.due("still all stay", x.value(0, 0), 12345000000L);
        Check.due("undo 2", x.undo(2), 3);
        Check.due("three stay", x.value(0, 0), 123000000L);
        Check.due("undo all", x.undo(3), 0);
    }

    private static void count() {
        TypedAmounts x = new TypedAmounts();
        Check.english(x);
        Check.german(x);
        Check.type(x, "abc");
        x.row();
        Check.type(x, "de");
        x.words(11);
        Check.due("lands", x.count(0), 2);
        Check.due("bytes", x.count(1), 2);
        Check.due("rows", x.count(2), 1);
        Check.due("shown", x.count(3), 6);
        Check.due("count -1", x.count(-1), -1);
        Check.due("count 4", x.count(4), -1);
    }
}
