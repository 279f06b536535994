/** Promises 1 to 7: a new object, row, lay, at, tear, copy, mean. */
public final class RowsTest {
    private static final int MOST = Integer.MAX_VALUE, LEAST = Integer.MIN_VALUE;
    private static final int NOTHING = 1, BEYOND = 2, NOUGHT = 4, SIZE = 5;

    public static void main(String[] args) {
        Due due = new Due();
        newObject(due);
        rows(due);
        places(due);
        tearing(due);
        copying(due);
        means(due);
        due.end("RowsTest");
    }

    private static void newObject(Due due) {
        NeverTogether x = new NeverTogether();
        for (int what = 0; what <= 8; what++) {
            due.is("count(" + what + ") of a new one", x.count(what), 0);
        }
        for (int r = 0; r < 6; r++) {
            int row = r;
            due.found("at(" + r + ", 0) of a new one", x, () -> x.at(row, 0), NOTHING);
        }
        for (int t = 0; t < 4; t++) {
            int text = t;
            due.found("fault(" + t + ") of a new one", x, () -> x.fault(text), NOTHING);
        }
        due.is("another new one knows nothing of it", new NeverTogether().finding(), 0);
    }

    private static void rows(Due due) {
        NeverTogether x = new NeverTogether();
        due.is("row(0, 3)", x.row(0, 3), 3);
        due.rowIs("row(0, 3)", x, 0, 0, 0, 0);
        due.is("row(5, 40)", x.row(5, 40), 40);
        due.is("row(5, 0)", x.row(5, 0), 0);
        due.is("count(6)", x.count(6), 2);
        due.is("lay(0, 1, 7)", x.lay(0, 1, 7), 1);
        due.is("row(0, 2) anew", x.row(0, 2), 2);
        due.rowIs("row(0, 2) anew", x, 0, 0, 0);
        due.is("row(0, 3) anew", x.row(0, 3), 3);
        due.rowIs("row(0, 3) anew", x, 0, 0, 0, 0);
        due.refused("row(-1, 3)", x, () -> x.row(-1, 3), -1);
        due.refused("row(6, 3)", x, () -> x.row(6, 3), -1);
        due.refused("row(0, 41)", x, () -> x.row(0, 41), -1);
        due.refused("row(0, MOST)", x, () -> x.row(0, MOST), -1);
        due.refused("row(6, -1): BAD ahead of SIZE", x, () -> x.row(6, -1), -1);
        due.found("row(0, -1)", x, () -> x.row(0, -1), SIZE);
        due.found("row(0, LEAST)", x, () -> x.row(0, LEAST), SIZE);
    }

    private static void places(Due due) {
        NeverTogether x = new NeverTogether();
        due.is("row(2, 2)", x.row(2, 2), 2);
        due.told("lay(2, 1, LEAST)", x, x.lay(2, 1, LEAST), 1, 0);
        due.told("lay(2, 1, 9)", x, x.lay(2, 1, 9), 1, LEAST);
        due.told("at(2, 1)", x, x.at(2, 1), 1, 9);
        due.told("at(2, 0)", x, x.at(2, 0), 1, 0);
        due.told("at(2, 1)", x, x.at(2, 1), 1, 9);
        due.refused("lay(-1, 0, 1)", x, () -> x.lay(-1, 0, 1), -1);
        due.refused("lay(6, 0, 1)", x, () -> x.lay(6, 0, 1), -1);
        due.found("lay(3, 0, 1)", x, () -> x.lay(3, 0, 1), NOTHING);
        due.found("lay(3, -1, 1): NOTHING ahead of BEYOND", x, () -> x.lay(3, -1, 1), NOTHING);
        due.found("lay(2, 2, 1)", x, () -> x.lay(2, 2, 1), BEYOND);
        due.found("lay(2, -1, 1)", x, () -> x.lay(2, -1, 1), BEYOND);
        due.refused("at(-1, 0)", x, () -> x.at(-1, 0), -1);
        due.refused("at(6, 0)", x, () -> x.at(6, 0), -1);
        due.found("at(3, 0)", x, () -> x.at(3, 0), NOTHING);
        due.found("at(2, 2)", x, () -> x.at(2, 2), BEYOND);
        due.found("at(2, MOST)", x, () -> x.at(2, MOST), BEYOND);
        due.found("at(2, LEAST)", x, () -> x.at(2, LEAST), BEYOND);
    }

    private static void tearing(Due due) {
        NeverTogether x = new NeverTogether();
        due.row(x, 1, 4, 5);
        due.is("tear(1)", x.tear(1), 1);
        due.is("count(6)", x.count(6), 0);
        due.found("at(1, 0) when torn", x, () -> x.at(1, 0), NOTHING);
        due.found("tear(1) again", x, () -> x.tear(1), NOTHING);
        due.refused("tear(6)", x, () -> x.tear(6), -1);
        due.refused("tear(-1)", x, () -> x.tear(-1), -1);
        due.is("row(1, 2)", x.row(1, 2), 2);
        due.rowIs("row(1, 2) behind tear(1)", x, 1, 0, 0);
    }

    private static void copying(Due due) {
        NeverTogether x = new NeverTogether();
        due.row(x, 0, 1, 2, 3, 4, 5);
        due.row(x, 1, 9, 9, 9);
        due.is("copy(0, 1, 1, 0, 2)", x.copy(0, 1, 1, 0, 2), 1);
        due.rowIs("copy to another", x, 1, 2, 3, 9);
        due.is("copy(0, 0, 0, 1, 4)", x.copy(0, 0, 0, 1, 4), 1);
        due.rowIs("copy upwards in itself", x, 0, 1, 1, 2, 3, 4);
        due.is("copy(0, 2, 0, 0, 3)", x.copy(0, 2, 0, 0, 3), 1);
        due.rowIs("copy downwards in itself", x, 0, 2, 3, 4, 3, 4);
        due.is("copy(1, 0, 0, 2, 3): all of one to the end of another", x.copy(1, 0, 0, 2, 3), 1);
        due.rowIs("copy of all", x, 0, 2, 3, 2, 3, 9);
        due.found("copy(1, 1, 0, 0, 3)", x, () -> x.copy(1, 1, 0, 0, 3), BEYOND);
        due.found("copy(1, 0, 0, 3, 3)", x, () -> x.copy(1, 0, 0, 3, 3), BEYOND);
        due.is("copy(0, 5, 1, 3, 0): none from the end", x.copy(0, 5, 1, 3, 0), 1);
        due.found("copy(0, 6, 1, 0, 0)", x, () -> x.copy(0, 6, 1, 0, 0), BEYOND);
        due.found("copy(0, 0, 1, 4, 0)", x, () -> x.copy(0, 0, 1, 4, 0), BEYOND);
        due.found("copy(0, 0, 1, 0, 4)", x, () -> x.copy(0, 0, 1, 0, 4), BEYOND);
        due.found("copy(1, 0, 0, 0, 4)", x, () -> x.copy(1, 0, 0, 0, 4), BEYOND);
        due.found("copy(0, -1, 1, 0, 2)", x, () -> x.copy(0, -1, 1, 0, 2), BEYOND);
        due.found("copy(0, 0, 1, -1, 2)", x, () -> x.copy(0, 0, 1, -1, 2), BEYOND);
        due.found("copy(0, MOST, 1, 0, 2)", x, () -> x.copy(0, MOST, 1, 0, 2), BEYOND);
        due.found("copy(0, 1, 1, 0, MOST)", x, () -> x.copy(0, 1, 1, 0, MOST), BEYOND);
        due.found("copy(0, 0, 2, 0, 1)", x, () -> x.copy(0, 0, 2, 0, 1), NOTHING);
        due.found("copy(2, 0, 0, 0, 1)", x, () -> x.copy(2, 0, 0, 0, 1), NOTHING);
        due.found("copy(2, 99, 0, 0, 1): NOTHING ahead of BEYOND", x, () -> x.copy(2, 99, 0, 0, 1), NOTHING);
        due.found("copy(2, 0, 3, 0, -1): SIZE ahead of NOTHING", x, () -> x.copy(2, 0, 3, 0, -1), SIZE);
        due.found("copy(0, 0, 1, 0, LEAST)", x, () -> x.copy(0, 0, 1, 0, LEAST), SIZE);
        due.refused("copy(6, 0, 0, 0, -1): BAD ahead of SIZE", x, () -> x.copy(6, 0, 0, 0, -1), -1);
        due.refused("copy(0, 0, 6, 0, 1)", x, () -> x.copy(0, 0, 6, 0, 1), -1);
        due.refused("copy(-1, 0, 0, 0, 1)", x, () -> x.copy(-1, 0, 0, 0, 1), -1);
        due.refused("copy(0, 0, -1, 0, 1)", x, () -> x.copy(0, 0, -1, 0, 1), -1);
    }

    private static void means(Due due) {
        NeverTogether x = new NeverTogether();
        due.row(x, 0, 1, 2, 4);
        due.told("mean of 1 2 4", x, x.mean(0), 1, 2);
        due.row(x, 0, -1, -2, -4);
        due.told("mean of -1 -2 -4", x, x.mean(0), 1, -2);
        due.row(x, 0, -8);
        due.told("mean of one", x, x.mean(0), 1, -8);
        due.row(x, 0, -1, 0);
        due.told("mean of -1 0", x, x.mean(0), 1, 0);
        due.row(x, 0, MOST, MOST, MOST);
        due.told("mean of thrice the most", x, x.mean(0), 1, MOST);
        due.row(x, 0, LEAST, LEAST);
        due.told("mean of twice the least", x, x.mean(0), 1, LEAST);
        due.is("row(0, 0)", x.row(0, 0), 0);
        due.found("mean of none", x, () -> x.mean(0), NOUGHT);
        due.found("mean(1)", x, () -> x.mean(1), NOTHING);
        due.refused("mean(6)", x, () -> x.mean(6), -1);
        due.refused("mean(-1)", x, () -> x.mean(-1), -1);
    }
}
