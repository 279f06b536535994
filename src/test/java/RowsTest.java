/** Promises 2 to 7 with ordinary inputs: row, lay, at, tear, copy, mean. */
public final class RowsTest {
    private static final int MOST = Integer.MAX_VALUE, LEAST = Integer.MIN_VALUE;

    public static void main(String[] args) {
        Due due = new Due();
        rows(due);
        places(due);
        tearing(due);
        copying(due);
        means(due);
        due.end("RowsTest");
    }

    private static void rows(Due due) {
        NeverTogether x = new NeverTogether();
        due.is("row(0, 3)", x.row(0, 3), 3);
        due.rowIs("row(0, 3)", x, 0, 0, 0, 0);
        due.is("row(5, 40)", x.row(5, 40), 40);
        due.is("row(5, 0)", x.row(5, 0), 0);
        due.is("count(6)", x.count(6), 2);
        due.is("lay(0, 1, 7)", x.lay(0, 1, 7), 1);
        due.is("row(0, 2) anew", x.row(0, 2), 2);
        due.rowIs("row(0, 2) anew", x, 0, 0, 0);
        due.is("row(0, 3) anew", x.row(0, 3), 3);
        due.rowIs("row(0, 3) anew", x, 0, 0, 0, 0);
    }

    private static void places(Due due) {
        NeverTogether x = new NeverTogether();
        due.is("row(2, 2)", x.row(2, 2), 2);
        due.told("lay(2, 1, LEAST)", x, x.lay(2, 1, LEAST), 1, 0);
        due.told("lay(2, 1, 9)", x, x.lay(2, 1, 9), 1, LEAST);
        due.told("at(2, 1)", x, x.at(2, 1), 1, 9);
        due.told("at(2, 0)", x, x.at(2, 0), 1, 0);
        due.told("at(2, 1)", x, x.at(2, 1), 1, 9);
    }

    private static void tearing(Due due) {
        NeverTogether x = new NeverTogether();
        due.row(x, 1, 4, 5);
        due.is("tear(1)", x.tear(1), 1);
        due.is("count(6)", x.count(6), 0);
        due.is("row(1, 2)", x.row(1, 2), 2);
        due.rowIs("row(1, 2) behind tear(1)", x, 1, 0, 0);
    }

    private static void copying(Due due) {
        NeverTogether x = new NeverTogether();
        due.row(x, 0, 1, 2, 3, 4, 5);
        due.row(x, 1, 9, 9, 9);
        due.is("copy(0, 1, 1, 0, 2)", x.copy(0, 1, 1, 0, 2), 1);
        due.rowIs("copy to another", x, 1, 2, 3, 9);
        due.is("copy(0, 0, 0, 1, 4)", x.copy(0, 0, 0, 1, 4), 1);
        due.rowIs("copy upwards in itself", x, 0, 1, 1, 2, 3, 4);
        due.is("copy(0, 2, 0, 0, 3)", x.copy(0, 2, 0, 0, 3), 1);
        due.rowIs("copy downwards in itself", x, 0, 2, 3, 4, 3, 4);
        due.is("copy(1, 0, 0, 2, 3): all of one to the end of another", x.copy(1, 0, 0, 2, 3), 1);
        due.rowIs("copy of all", x, 0, 2, 3, 2, 3, 9);
        due.is("copy(0, 5, 1, 3, 0): none from the end", x.copy(0, 5, 1, 3, 0), 1);
    }

    private static void means(Due due) {
        NeverTogether x = new NeverTogether();
        due.row(x, 0, 1, 2, 4);
        due.told("mean of 1 2 4", x, x.mean(0), 1, 2);
        due.row(x, 0, -1, -2, -4);
        due.told("mean of -1 -2 -4", x, x.mean(0), 1, -2);
        due.row(x, 0, -8);
        due.told("mean of one", x, x.mean(0), 1, -8);
        due.row(x, 0, -1, 0);
        due.told("mean of -1 0", x, x.mean(0), 1, 0);
        due.row(x, 0, MOST, MOST, MOST);
        due.told("mean of thrice the most", x, x.mean(0), 1, MOST);
        due.row(x, 0, LEAST, LEAST);
        due.told("mean of twice the least", x, x.mean(0), 1, LEAST);
    }
}
