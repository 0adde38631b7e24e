/** The edges of Promises 17 (row), 18 (clear), 19 (fit), 20 (misfit), 21 (sum): a method for each sentence. */
public final class RowsEdgesTest {
    private static final long L = Check.LEAST;
    private static final int[] NO_KINDS = {-1, 3, 4, 256, Integer.MAX_VALUE, Integer.MIN_VALUE};
    private static final int[] NO_LANDS = {-1, 1, 5, 6, 32, Integer.MAX_VALUE, Integer.MIN_VALUE};

    public static void main(String[] args) {
        thirtyRows();
        emptyThen();
        rowsOfSixtyBytes();
        emptyRow();
        allGone();
        clearLeavesTheRest();
        fitWithoutRows();
        fitWithoutLands();
        fitByEachRow();
        fitBits();
        fitByBounds();
        fitOfNoKind();
        firstMisfit();
        noMisfit();
        misfitByBounds();
        misfitOfNoneSuch();
        sumWithoutRows();
        sumOfThirty();
        sumNotAll();
        sumOfNoneSuch();
        Check.end();
    }

    private static void paste(TypedAmounts x, String text) {
        Check.add(x, text);
        x.row();
    }

    private static void thirtyRows() {
        Check.sentence("Promise 17", "NONE: there are 30.");
        TypedAmounts x = new OneLand().made();
        for (int i = 0; i < 30; i++) {
            Check.due("rows", x.count(2), i);
            x.key('1');
            Check.due("row " + i, x.row(), i);
        }
        Check.add(x, "23");
        for (int i = 0; i < 2; i++) {
            Check.due("row 30", x.row(), -1);
            Check.due("rows", x.count(2), 30);
            Check.due("the line stays", x.value(0, 0), 23000000);
        }
        Check.due("the rows stay", x.sum(0, 0), 30000000);
        x.clear();
        Check.due("there is room again", x.row(), 0);
        Check.due("it is the row", x.sum(0, 0), 23000000);
    }

    private static void emptyThen() {
        Check.sentence("Promise 17", "THE LINE becomes a row, and is empty then: its number.");
        TypedAmounts x = new OneLand().with("12");
        Check.due("row", x.row(), 0);
        Check.due("bytes", x.count(1), 0);
        Check.due("undo", x.undo(1), -1);
        Check.due("value", x.value(0, 0), L);
        Check.due("open", x.open(0, 0), true);
        Check.due("key", x.key('7'), 1);
        Check.due("value", x.value(0, 0), 7000000);
        Check.due("the row is as it was", x.sum(0, 0), 12000000);
    }

    private static void rowsOfSixtyBytes() {
        Check.sentence("Term 1", "THE LINE has at most 60 bytes.");
        TypedAmounts x = new OneLand().made();
        String sixty = "x".repeat(60);
        paste(x, "5");
        paste(x, sixty);
        paste(x, "6");
        Check.due("rows", x.count(2), 3);
        Check.due("the long one is no number", x.misfit(0, 0), 1);
        x.clear();
        paste(x, "7");
        paste(x, "8");
        Check.due("nothing of it is left", x.sum(0, 0), 15000000);
        TypedAmounts y = new OneLand().made();
        for (int i = 0; i < 29; i++) {
            paste(y, "9");
        }
        paste(y, sixty);
        Check.due("the last row of 60 bytes", y.misfit(0, 0), 29);
    }

    private static void emptyRow() {
        Check.sentence("Promise 17", "THE LINE becomes a row");
        TypedAmounts x = new OneLand().made();
        Check.due("row of an empty line", x.row(), 0);
        Check.due("the next", x.row(), 1);
        Check.due("rows", x.count(2), 2);
        for (int kind = 0; kind < 3; kind++) {
            Check.due("it is not READ", x.misfit(0, kind), 0);
            Check.due("by none", x.fit(kind), 0);
        }
        Check.due("no sum", x.sum(0, 0), L);
    }

    private static void allGone() {
        Check.sentence("Promise 18", "All rows are gone.");
        for (int rows : new int[] {0, 1, 29, 30}) {
            TypedAmounts x = new OneLand().made();
            for (int i = 0; i < rows; i++) {
                paste(x, "x");
            }
            Check.due("misfit", x.misfit(0, 0), rows == 0 ? -1 : 0);
            x.clear();
            Check.due("rows", x.count(2), 0);
            Check.due("misfit", x.misfit(0, 0), -1);
            Check.due("fit", x.fit(0), 1);
            Check.due("sum", x.sum(0, 0), 0);
            x.clear();
            Check.due("cleared twice", x.count(2), 0);
            Check.due("from 0 on again", x.row(), 0);
        }
    }

    private static void clearLeavesTheRest() {
        Check.sentence("Promise 18", "All rows are gone.");
        TypedAmounts x = new OneLand().made();
        paste(x, "x");
        x.image(1);
        Check.add(x, "12");
        x.words(4);
        x.bounds(1, 1, 2);
        x.clear();
        Check.due("the line", x.value(0, 0), 12000000);
        Check.due("what is SHOWN", Check.display(x), "four");
        Check.due("lands", x.count(0), 1);
        x.undo(2);
        Check.add(x, "ABC1");
        Check.due("bounds", x.state(1, 1), 1);
        Check.due("images", x.again(1), true);
        Check.due("the rows of the image", x.count(2), 1);
    }

    private static void fitWithoutRows() {
        Check.sentence("Promise 19", "The LANDS that READ all rows as a KIND");
        for (int lands = 0; lands <= 6; lands++) {
            TypedAmounts x = new TypedAmounts();
            for (int i = 0; i < lands; i++) {
                new OneLand().addTo(x);
            }
            for (int kind = 0; kind < 3; kind++) {
                Check.due("fit of " + lands + " lands", x.fit(kind), (1 << lands) - 1);
            }
        }
    }

    private static void fitWithoutLands() {
        Check.sentence("Promise 19", "The LANDS that READ all rows as a KIND");
        TypedAmounts x = new TypedAmounts();
        paste(x, "1");
        for (int kind = 0; kind < 3; kind++) {
            Check.due("no lands", x.fit(kind), 0);
        }
        new OneLand().addTo(x);
        Check.due("a later land reads earlier rows", x.fit(0), 1);
    }

    /** One wrong row of thirty, at each place, is enough. */
    private static void fitByEachRow() {
        Check.sentence("Promise 19", "READ all rows");
        for (int wrong = 0; wrong <= 30; wrong++) {
            TypedAmounts x = new OneLand().made();
            new OneLand().signs(',', 0).addTo(x);
            for (int i = 0; i < 30; i++) {
                paste(x, i == wrong ? "1.5" : "1");
            }
            Check.due("wrong row " + wrong, x.fit(0), wrong == 30 ? 3 : 1);
            Check.due("misfit", x.misfit(1, 0), wrong == 30 ? -1 : wrong);
            Check.due("misfit of the other", x.misfit(0, 0), -1);
        }
    }

    private static void fitBits() {
        Check.sentence("Promise 19", "(bits)");
        TypedAmounts x = new TypedAmounts();
        for (int i = 0; i < 6; i++) {
            new OneLand().mark("AB" + (char) ('A' + i), false).addTo(x);
        }
        for (int i = 0; i < 6; i++) {
            x.clear();
            paste(x, "AB" + (char) ('A' + i) + "1");
            Check.due("land " + i, x.fit(1), 1 << i);
            Check.due("as numbers", x.fit(0), 0);
            Check.due("as days", x.fit(2), 0);
        }
        paste(x, "ABA1");
        Check.due("none of all", x.fit(1), 0);
    }

    private static void fitByBounds() {
        Check.sentence("Promise 19", "with VALUES that count");
        String[] lines = {"-5", "ABC5", "1/1/0002"};
        long[] values = {-5000000, 5000000, 365};
        for (int kind = 0; kind < 3; kind++) {
            TypedAmounts x = new OneLand().made();
            paste(x, lines[kind]);
            long value = values[kind];
            x.bounds(kind, value, value);
            Check.due("just within", x.fit(kind), 1);
            x.bounds(kind, value + 1, Long.MAX_VALUE);
            Check.due("just below", x.fit(kind), 0);
            x.bounds(kind, Long.MIN_VALUE, value - 1);
            Check.due("just above", x.fit(kind), 0);
            x.bounds((kind + 1) % 3, 77, 77);
            x.bounds(kind, value, value);
            Check.due("bounds of other kinds", x.fit(kind), 1);
        }
    }

    private static void fitOfNoKind() {
        Check.sentence("Promise 19", "NONE for another KIND.");
        for (int kind : NO_KINDS) {
            TypedAmounts x = new OneLand().made();
            Check.due("kind " + kind + " without rows", x.fit(kind), -1);
            paste(x, "1");
            Check.due("kind " + kind, x.fit(kind), -1);
            Check.due("kind " + kind + " without lands", new TypedAmounts().fit(kind), -1);
        }
    }

    private static void firstMisfit() {
        Check.sentence("Promise 20", "The first row that a LAND does not READ as a KIND");
        for (int first = 0; first < 30; first += 29) {
            TypedAmounts x = new OneLand().made();
            for (int i = 0; i < 30; i++) {
                paste(x, i < first ? "1" : "x");
            }
            Check.due("misfit", x.misfit(0, 0), first);
            Check.due("as money", x.misfit(0, 1), 0);
            Check.due("as days", x.misfit(0, 2), 0);
        }
        TypedAmounts x = new OneLand().made();
        paste(x, "1");
        paste(x, "1,");
        Check.due("OPEN is not READ", x.misfit(0, 0), 1);
        x.clear();
        paste(x, "1/1/0001");
        paste(x, "31/4/0001");
        Check.due("no day", x.misfit(0, 2), 1);
    }

    private static void noMisfit() {
        Check.sentence("Promise 20", "NONE if there is none such (of any).");
        TypedAmounts x = new OneLand().made();
        Check.due("without rows", x.misfit(0, 0), -1);
        paste(x, "1");
        Check.due("all are READ", x.misfit(0, 0), -1);
    }

    private static void misfitByBounds() {
        Check.sentence("Promise 20", "or with a VALUE that does not count");
        TypedAmounts x = new OneLand().made();
        for (int i = 1; i <= 9; i++) {
            paste(x, String.valueOf(i));
        }
        x.bounds(0, 1000000, 9000000);
        Check.due("all within", x.misfit(0, 0), -1);
        x.bounds(0, 1000001, 9000000);
        Check.due("the first is below", x.misfit(0, 0), 0);
        x.bounds(0, 1000000, 8999999);
        Check.due("the last is above", x.misfit(0, 0), 8);
        x.bounds(0, 1000000, 4999999);
        Check.due("the first that is above", x.misfit(0, 0), 4);
    }

    private static void misfitOfNoneSuch() {
        Check.sentence("Promise 20", "NONE if there is none such (of any).");
        TypedAmounts x = new OneLand().made();
        paste(x, "x");
        Check.due("land 0", x.misfit(0, 0), 0);
        for (int land : NO_LANDS) {
            for (int kind = 0; kind < 3; kind++) {
                Check.due("land " + land, x.misfit(land, kind), -1);
            }
        }
        for (int kind : NO_KINDS) {
            Check.due("kind " + kind, x.misfit(0, kind), -1);
        }
    }

    private static void sumWithoutRows() {
        Check.sentence("Promise 21", "(0 without rows)");
        TypedAmounts x = new OneLand().made();
        Check.due("numbers", x.sum(0, 0), 0);
        Check.due("money", x.sum(0, 1), 0);
        x.bounds(0, 5, 5);
        Check.due("bounds that leave out 0", x.sum(0, 0), 0);
        Check.add(x, "x");
        Check.due("the line is no row", x.sum(0, 0), 0);
    }

    private static void sumOfThirty() {
        Check.sentence("Promise 21", "The sum of VALUES of all rows as READ by a LAND as KIND 0 or 1");
        String[] lines = {"999999999.999999", "ABC999999999.999999"};
        for (int kind = 0; kind < 2; kind++) {
            TypedAmounts x = new OneLand().made();
            TypedAmounts y = new OneLand().made();
            for (int i = 1; i <= 30; i++) {
                paste(x, lines[kind]);
                paste(y, "-" + lines[kind]);
                Check.due("sum of " + i, x.sum(0, kind), i * 999999999999999L);
                Check.due("sum below 0 of " + i, y.sum(0, kind), -i * 999999999999999L);
            }
        }
        TypedAmounts x = new OneLand().made();
        paste(x, "1.5");
        paste(x, "-1.5");
        Check.due("sum 0", x.sum(0, 0), 0);
        paste(x, "-0.000001");
        Check.due("sum -1", x.sum(0, 0), -1);
        x.bounds(0, -1500000, 1500000);
        Check.due("all at the bounds", x.sum(0, 0), -1);
        TypedAmounts y = new OneLand().made();
        new OneLand().signs(',', '.').addTo(y);
        paste(y, "1,234");
        Check.due("by land 0", y.sum(0, 0), 1234000000L);
        Check.due("by land 1", y.sum(1, 0), 1234000);
    }

    private static void sumNotAll() {
        Check.sentence("Promise 21", "The least long: not all are, with VALUES that count");
        for (int wrong = 0; wrong < 30; wrong += 29) {
            TypedAmounts x = new OneLand().made();
            for (int i = 0; i < 30; i++) {
                paste(x, i == wrong ? "1," : "1");
            }
            Check.due("row " + wrong + " is not READ", x.sum(0, 0), L);
        }
        TypedAmounts x = new OneLand().made();
        paste(x, "1");
        paste(x, "2");
        x.bounds(0, 1000001, 2000000);
        Check.due("the first is below", x.sum(0, 0), L);
        x.bounds(0, 1000000, 1999999);
        Check.due("the last is above", x.sum(0, 0), L);
        x.bounds(0, 1000000, 2000000);
        Check.due("both count, the sum need not", x.sum(0, 0), 3000000);
    }

    private static void sumOfNoneSuch() {
        Check.sentence("Promise 21", "or there is none such");
        TypedAmounts x = new OneLand().made();
        for (int land : NO_LANDS) {
            Check.due("land " + land, x.sum(land, 0), L);
            Check.due("land " + land, x.sum(land, 1), L);
        }
        for (int kind : NO_KINDS) {
            Check.due("kind " + kind, x.sum(0, kind), L);
        }
        Check.due("days without rows", x.sum(0, 2), L);
        paste(x, "1/1/0001");
        Check.due("days", x.sum(0, 2), L);
    }
}
