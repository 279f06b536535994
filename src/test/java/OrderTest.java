/**
 * In which order calls are refused: "the first of these that fits, in this order: BAD, FULL, STATE, SPENT, FINDING, unless a
 * call says so otherwise". For each two neighbours in a call's order a case that both fit, where there can be such a case,
 * and next to it a case that the second one alone fits.
 */
public final class OrderTest {
    private static final int BAD = Edges.BAD, FULL = Edges.FULL, STATE = Edges.STATE;
    private static final int MOST = Edges.MOST, LEAST = Edges.LEAST;

    public static void main(String[] args) {
        Edges e = new Edges();
        rowsAndTexts(e);
        places(e);
        missing(e);
        copyOrder(e);
        meanOrder(e);
        houseOrder(e);
        markOrder(e);
        badAheadOfState(e);
        dayOrder(e);
        touchOrder(e);
        onOrder(e);
        lateOrder(e);
        heardOrder(e);
        lotsOrder(e);
        e.end("OrderTest");
    }

    private static void rowsAndTexts(Edges e) {
        e.beginNew();
        e.sentence(2, "BAD ahead of SIZE");
        e.bad("row(v, -1)", (x, r) -> x.row(r, -1), -1, 6, MOST);
        e.finds("row(0, -1)", x -> x.row(0, -1), Edges.SIZE);
        e.sentence(8, "BAD ahead of SIZE");
        e.bad("text(v, -1)", (x, t) -> x.text(t, -1), -1, 4, MOST);
        e.finds("text(0, -1)", x -> x.text(0, -1), Edges.SIZE);
    }

    private static void places(Edges e) {
        e.begin(() -> {
            NeverTogether x = Edges.withRows(2);
            x.text(0, 2);
            return x;
        });
        e.sentence(3, "BAD ahead of NOTHING ahead of BEYOND");
        e.bad("lay(v, 0, 1)", (x, r) -> x.lay(r, 0, 1), -1, 6);
        e.bad("lay(v, 2, 1)", (x, r) -> x.lay(r, 2, 1), -1, 6);
        e.allFind("lay(1, v, 1)", (x, i) -> x.lay(1, i, 1), Edges.NOTHING, -1, 0, 40, MOST, LEAST);
        e.allFind("lay(0, v, 1)", (x, i) -> x.lay(0, i, 1), Edges.BEYOND, -1, 2, 40, MOST, LEAST);
        e.sentence(4, "BAD ahead of NOTHING ahead of BEYOND");
        e.bad("at(v, 0)", (x, r) -> x.at(r, 0), -1, 6);
        e.bad("at(v, 2)", (x, r) -> x.at(r, 2), -1, 6);
        e.allFind("at(1, v)", (x, i) -> x.at(1, i), Edges.NOTHING, -1, 0, 40, MOST, LEAST);
        e.allFind("at(0, v)", (x, i) -> x.at(0, i), Edges.BEYOND, -1, 2, 40, MOST, LEAST);
        e.sentence(9, "BAD ahead of NOTHING ahead of BEYOND");
        e.bad("put(v, 0, 1)", (x, t) -> x.put(t, 0, 1), -1, 4);
        e.bad("put(v, 2, 1)", (x, t) -> x.put(t, 2, 1), -1, 4);
        e.allFind("put(1, v, 1)", (x, i) -> x.put(1, i, 1), Edges.NOTHING, -1, 0, 60, MOST, LEAST);
        e.allFind("put(0, v, 1)", (x, i) -> x.put(0, i, 1), Edges.BEYOND, -1, 2, 60, MOST, LEAST);
    }

    private static void missing(Edges e) {
        e.beginNew();
        e.sentence(5, "BAD ahead of NOTHING");
        e.bad("tear(v)", (x, r) -> x.tear(r), -1, 6);
        e.allFind("tear(v)", (x, r) -> x.tear(r), Edges.NOTHING, 0, 5);
        e.sentence(10, "BAD ahead of NOTHING");
        e.bad("fault(v)", (x, t) -> x.fault(t), -1, 4);
        e.allFind("fault(v)", (x, t) -> x.fault(t), Edges.NOTHING, 0, 3);
    }

    private static void copyOrder(Edges e) {
        e.begin(() -> Edges.withRows(2, 2));
        e.sentence(6, "BAD ahead of SIZE");
        e.bad("copy(v, 0, 0, 0, -1)", (x, r) -> x.copy(r, 0, 0, 0, -1), -1, 6);
        e.bad("copy(0, 0, v, 0, -1)", (x, to) -> x.copy(0, 0, to, 0, -1), -1, 6);
        e.bad("copy(5, 0, v, 0, 0), the other one missing", (x, to) -> x.copy(5, 0, to, 0, 0), -1, 6);
        e.bad("copy(v, 0, 5, 0, 0), the other one missing", (x, r) -> x.copy(r, 0, 5, 0, 0), -1, 6);
        e.bad("copy(v, 9, 0, 9, 9)", (x, r) -> x.copy(r, 9, 0, 9, 9), -1, 6);
        e.sentence(6, "SIZE ahead of NOTHING");
        e.finds("copy(5, 0, 0, 0, -1)", x -> x.copy(5, 0, 0, 0, -1), Edges.SIZE);
        e.finds("copy(0, 0, 5, 0, -1)", x -> x.copy(0, 0, 5, 0, -1), Edges.SIZE);
        e.finds("copy(5, 0, 5, 0, LEAST)", x -> x.copy(5, 0, 5, 0, LEAST), Edges.SIZE);
        e.finds("copy(0, 9, 0, 9, -1): ahead of BEYOND, too", x -> x.copy(0, 9, 0, 9, -1), Edges.SIZE);
        e.sentence(6, "NOTHING ahead of BEYOND");
        e.finds("copy(5, -1, 0, 0, 1)", x -> x.copy(5, -1, 0, 0, 1), Edges.NOTHING);
        e.finds("copy(5, 0, 0, 2, 1)", x -> x.copy(5, 0, 0, 2, 1), Edges.NOTHING);
        e.finds("copy(0, 2, 5, 0, 1)", x -> x.copy(0, 2, 5, 0, 1), Edges.NOTHING);
        e.finds("copy(0, 0, 5, MOST, MOST)", x -> x.copy(0, 0, 5, MOST, MOST), Edges.NOTHING);
        e.finds("copy(0, 2, 1, 0, 1)", x -> x.copy(0, 2, 1, 0, 1), Edges.BEYOND);
        e.finds("copy(0, 0, 1, 2, 1)", x -> x.copy(0, 0, 1, 2, 1), Edges.BEYOND);
    }

    private static void meanOrder(Edges e) {
        e.begin(() -> Edges.withRows(0));
        e.sentence(7, "BAD ahead of NOTHING ahead of NOUGHT");
        e.bad("mean(v)", (x, r) -> x.mean(r), -1, 6);
        e.allFind("mean(v)", (x, r) -> x.mean(r), Edges.NOTHING, 1, 5);
        e.allFind("mean(v)", (x, r) -> x.mean(r), Edges.NOUGHT, 0);
        e.is("NOTHING, where a ROW of none was", x -> Edges.last(x.tear(0), x.mean(0), x.finding()), Edges.NOTHING);
    }

    private static void houseOrder(Edges e) {
        e.begin(() -> {
            NeverTogether x = new NeverTogether();
            x.text(0, 5);
            return x;
        });
        e.sentence(11, "BAD ahead of NOTHING ahead of STATE (STATE behind NOTHING.)");
        e.bad("house(v)", (x, t) -> x.house(t), -1, 4);
        e.allFind("house(v)", (x, t) -> x.house(t), Edges.NOTHING, 1, 2, 3);
        e.refused("house(0)", x -> x.house(0), STATE);
    }

    private static void markOrder(Edges e) {
        e.beginHouse("z0 c0040");
        e.sentence(13, "BAD ahead of UNLIKE");
        e.bad("mark(0, v)", (x, kind) -> x.mark(0, kind), -1, 0, 6);
        e.bad("mark(v, 1)", (x, i) -> x.mark(i, 1), -1, 1);
        e.allFind("mark(0, v)", (x, kind) -> x.mark(0, kind), Edges.UNLIKE, 1, 2, 3, 4, 5);
    }

    private static void badAheadOfState(Edges e) {
        e.beginNew();
        e.sentence(14, "BAD ahead of STATE");
        e.bad("heat(v)", (x, day) -> x.heat(day), -1, 1000);
        e.refused("heat(0)", x -> x.heat(0), STATE);
        e.sentence(18, "BAD ahead of STATE");
        e.bad("keep(v)", (x, k) -> x.keep(k), -1, 3);
        e.refused("keep(0)", x -> x.keep(0), STATE);
        e.sentence(28, "BAD ahead of STATE");
        e.bad("apart(v, 0)", (x, n) -> x.apart(n, 0), -1, 8);
        e.bad("apart(0, v)", (x, r) -> x.apart(0, r), -1, 6);
        e.refused("apart(0, 0)", x -> x.apart(0, 0), STATE);
        e.sentence(29, "BAD ahead of STATE");
        e.bad("stairs(v)", (x, n) -> x.stairs(n), -1, 8);
        e.refused("stairs(0)", x -> x.stairs(0), STATE);
        e.sentence(36, "BAD ahead of STATE");
        e.bad("cat(v)", (x, n) -> x.cat(n), -1, 3);
        e.refused("cat(0)", x -> x.cat(0), STATE);
        e.sentence(37, "BAD ahead of STATE");
        e.bad("first(v)", (x, n) -> x.first(n), -1, 0, 3);
        e.refused("first(1)", x -> x.first(1), STATE);
    }

    /** Without TIMEPIECES there are no DEEDS: STATE and FULL never fit both. */
    private static void dayOrder(Edges e) {
        e.sentence(15, "STATE ahead of FULL (FULL last.)");
        e.beginNew();
        e.refused("day()", x -> x.day(), STATE);
        e.beginAfter("z0 c0040", 40);
        e.refused("day()", x -> x.day(), FULL);
    }

    private static void touchOrder(Edges e) {
        e.begin(() -> {
            NeverTogether x = e.due.house("z0 c0040 c3040");
            x.touch(0, 1);
            return x;
        });
        e.sentence(16, "BAD ahead of STATE");
        e.bad("touch(0, v) again", (x, by) -> x.touch(0, by), 0, -6, 6);
        e.bad("touch(v, 1)", (x, i) -> x.touch(i, 1), -1, 2);
        e.refused("touch(0, 1) again", x -> x.touch(0, 1), STATE);
        e.begin(() -> {
            NeverTogether x = Edges.passed(e.due.house("z0 c0040 c3040"), 39);
            x.touch(0, 1);
            return x;
        });
        e.sentence(16, "STATE ahead of FULL (FULL last.)");
        e.refused("touch(0, 1) again", x -> x.touch(0, 1), STATE);
        e.refused("touch(1, 1)", x -> x.touch(1, 1), FULL);
        e.sentence(16, "BAD ahead of FULL");
        e.bad("touch(1, v)", (x, by) -> x.touch(1, by), 0, -6, 6);
        e.bad("touch(0, v) again", (x, by) -> x.touch(0, by), 0, -6, 6);
        e.bad("touch(v, 1)", (x, i) -> x.touch(i, 1), -1, 2);
    }

    private static void onOrder(Edges e) {
        e.sentence(19, "BAD ahead of NOTHING");
        e.beginNew();
        e.bad("on(v)", (x, k) -> x.on(k), -1, 3);
        e.allFind("on(v)", (x, k) -> x.on(k), Edges.NOTHING, 0, 2);
    }

    private static NeverTogether twoWithRow(Due due, int... row) {
        NeverTogether x = due.house("z0 c0040 c3040");
        due.row(x, 1, row);
        return x;
    }

    private static void lateOrder(Edges e) {
        e.sentence(32, "BAD ahead of STATE ahead of NOTHING (In this order.)");
        e.beginNew();
        e.bad("late(v)", (x, r) -> x.late(r), -1, 6);
        e.refused("late(0), missing", x -> x.late(0), STATE);
        e.begin(() -> Edges.withRows(1));
        e.refused("late(0), of one", x -> x.late(0), STATE);
        e.sentence(32, "NOTHING ahead of SIZE ahead of UNLIKE (In this order.)");
        e.begin(() -> twoWithRow(e.due, 0));
        e.finds("late(0), missing", x -> x.late(0), Edges.NOTHING);
        e.finds("late(1), of one", x -> x.late(1), Edges.SIZE);
        e.begin(() -> twoWithRow(e.due, 60));
        e.finds("late(1), of one that is no MINUTE", x -> x.late(1), Edges.SIZE);
        e.begin(() -> twoWithRow(e.due, 60, -1, 0));
        e.finds("late(1), of three, two of them no MINUTES", x -> x.late(1), Edges.SIZE);
        e.begin(() -> twoWithRow(e.due, 0, 60));
        e.finds("late(1), of two, one of them no MINUTE", x -> x.late(1), Edges.UNLIKE);
    }

    private static void heardOrder(Edges e) {
        for (int which = 0; which < 3; which++) {
            int w = which;
            e.sentence(33 + w, "BAD ahead of NOTHING");
            e.begin(() -> twoWithRow(e.due, 61));
            e.bad("of TIMEPIECE v by a missing ROW", (x, i) -> Edges.heard(x, w, i, 0), -1, 2);
            e.bad("of TIMEPIECE v by a ROW of one", (x, i) -> Edges.heard(x, w, i, 1), -1, 2);
            e.bad("by ROW v", (x, r) -> Edges.heard(x, w, 0, r), -1, 6);
            e.sentence(33 + w, "NOTHING ahead of SIZE ahead of UNLIKE");
            e.finds("by a missing ROW", x -> Edges.heard(x, w, 0, 0), Edges.NOTHING);
            e.finds("by a ROW of 61", x -> Edges.heard(x, w, 0, 1), Edges.SIZE);
            e.begin(() -> twoWithRow(e.due, 61, 60, 0));
            e.finds("by a ROW of 61 60 0", x -> Edges.heard(x, w, 0, 1), Edges.SIZE);
            e.begin(() -> twoWithRow(e.due, 61, 60));
            e.finds("by a ROW of 61 60", x -> Edges.heard(x, w, 0, 1), Edges.UNLIKE);
            e.begin(() -> Edges.withRows(1));
            e.bad("without TIMEPIECES", (x, r) -> Edges.heard(x, w, 0, r), 0, 1);
        }
    }

    private static void lotsOrder(Edges e) {
        e.sentence(40, "BAD ahead of STATE");
        e.beginNew();
        e.bad("lots(v, 1)", (x, n) -> x.lots(n, 1), 0, -1, 21);
        e.bad("lots(1, v)", (x, seed) -> x.lots(1, seed), 0, -1, MOST);
        e.refused("lots(1, 1)", x -> x.lots(1, 1), STATE);
        e.sentence(40, "BAD ahead of FULL (FULL last.)");
        e.beginAfter("z0 c0040", 40);
        e.bad("lots(v, 1)", (x, n) -> x.lots(n, 1), 0, -1, 21);
        e.bad("lots(1, v)", (x, seed) -> x.lots(1, seed), 0, -1, MOST);
        e.refused("lots(1, 1)", x -> x.lots(1, 1), FULL);
        e.beginHouse("z0 c0040");
        e.bad("lots(v, 1): twice 21 are more than 40", (x, n) -> x.lots(n, 1), 21, 22, MOST);
        e.bad("lots(20, v)", (x, seed) -> x.lots(20, seed), 0, -1, MOST);
    }
}
