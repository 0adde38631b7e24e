/** Promises 17 (row), 18 (clear), 19 (fit), 20 (misfit), 21 (sum). */
public final class RowsTest {
    private static final long L = Check.LEAST;

    public static void main(String[] args) {
        row();
        clear();
        noRows();
        fit();
        boundsCount();
        days();
        noneSuch();
        greatSum();
        Check.end();
    }

    private static void paste(TypedAmounts x, String... texts) {
        for (String text : texts) {
            Check.type(x, text);
            x.row();
        }
    }

    private static void row() {
        TypedAmounts x = Check.six();
        for (int i = 0; i < 30; i++) {
            Check.type(x, "1");
            Check.due("row " + i, x.row(), i);
            Check.due("the line is empty", x.count(1), 0);
        }
        Check.type(x, "12");
        Check.due("row 30", x.row(), -1);
        Check.due("the line stays", x.value(0, 0), 12000000);
        Check.due("rows", x.count(2), 30);
        Check.due("sum", x.sum(0, 0), 30000000);
        TypedAmounts y = Check.six();
        for (int i = 0; i < 60; i++) {
            y.key('9');
        }
        Check.due("row of 60 bytes", y.row(), 0);
        paste(y, "5");
        Check.due("misfit", y.misfit(0, 0), 0);
        Check.due("an empty line is a row", y.row(), 2);
    }

    private static void clear() {
        TypedAmounts x = Check.six();
        x.clear();
        Check.due("no rows", x.count(2), 0);
        paste(x, "123", "x");
        Check.type(x, "7");
        x.words(3);
        x.clear();
        Check.due("rows are gone", x.count(2), 0);
        Check.due("misfit", x.misfit(0, 0), -1);
        Check.due("the line stays", x.value(0, 0), 7000000);
        Check.due("SHOWN stays", x.count(3), 5);
        Check.due("lands stay", x.count(0), 6);
        paste(x, "4");
        Check.due("from 0 on again", x.count(2), 1);
        Check.due("nothing is left of older rows", x.sum(0, 0), 4000000);
    }

    private static void noRows() {
        TypedAmounts x = Check.six();
        for (int kind = 0; kind < 3; kind++) {
            Check.due("all fit", x.fit(kind), 63);
            Check.due("no misfit", x.misfit(0, kind), -1);
            Check.due("sum", x.sum(0, kind), kind < 2 ? 0 : L);
        }
    }

    private static void fit() {
        TypedAmounts x = Check.six();
        paste(x, "1,234");
        Check.due("comma", x.fit(0), 0b011111);
        paste(x, "5.5");
        Check.due("point", x.fit(0), 0b001101);
        Check.due("misfit of german", x.misfit(1, 0), 1);
        Check.due("misfit of plain", x.misfit(5, 0), 0);
        Check.due("misfit of english", x.misfit(0, 0), -1);
        Check.due("sum", x.sum(0, 0), 1239500000L);
        Check.due("no sum", x.sum(1, 0), L);
        paste(x, "123,456");
        Check.due("by three", x.fit(0), 0b000101);
        Check.due("misfit of indian", x.misfit(3, 0), 2);
        paste(x, "(5)");
        Check.due("brackets", x.fit(0), 0b000100);
        Check.due("misfit of english", x.misfit(0, 0), 3);
        Check.due("sum", x.sum(2, 0), 1239500000L + 123456000000L - 5000000);
        Check.due("no money", x.fit(1), 0);
        Check.due("no days", x.fit(2), 0);
        paste(x, "1,2");
        Check.due("open is not read", x.misfit(2, 0), 4);
        TypedAmounts y = Check.six();
        paste(y, "GBP 1", "GBP0.5", "-GBP 10");
        Check.due("money", y.fit(1), 1);
        Check.due("sum of money", y.sum(0, 1), -8500000);
        Check.due("no numbers", y.sum(0, 0), L);
    }

    private static void boundsCount() {
        TypedAmounts x = Check.six();
        paste(x, "1,500", "2");
        x.bounds(0, 0, 10000000);
        Check.due("only what counts", x.fit(0), 0b010010);
        Check.due("misfit", x.misfit(0, 0), 0);
        Check.due("no sum", x.sum(0, 0), L);
        Check.due("sum", x.sum(1, 0), 3500000);
        x.bounds(0, 2000000, 1500000000L);
        Check.due("bounds asked anew", x.fit(0), 0b001101);
        Check.due("misfit of german", x.misfit(1, 0), 0);
    }

    private static void days() {
        TypedAmounts x = Check.six();
        paste(x, "1/2/2000", "13/2/2000");
        Check.due("days", x.fit(2), 1);
        Check.due("misfit of american", x.misfit(2, 2), 1);
        Check.due("no misfit", x.misfit(0, 2), -1);
        Check.due("no sum of days", x.sum(0, 2), L);
    }

    private static void noneSuch() {
        TypedAmounts x = new TypedAmounts();
        Check.english(x);
        paste(x, "x");
        Check.due("fit -1", x.fit(-1), -1);
        Check.due("fit 3", x.fit(3), -1);
        int[][] none = {{-1, 0}, {1, 0}, {6, 1}, {0, -1}, {0, 3}};
        for (int[] pair : none) {
            Check.due("misfit of none such", x.misfit(pair[0], pair[1]), -1);
        }
        x.clear();
        for (int[] pair : none) {
            Check.due("sum of none such", x.sum(pair[0], pair[1]), L);
        }
    }

    private static void greatSum() {
        TypedAmounts x = Check.six();
        for (int i = 0; i < 30; i++) {
            paste(x, "-999,999,999.999999");
        }
        Check.due("sum", x.sum(0, 0), -30L * 999999999999999L);
    }
}
