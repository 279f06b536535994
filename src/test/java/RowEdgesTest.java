/** The edges of promises 1 to 7 and of ROWS, sentence by sentence. */
public final class RowEdgesTest {
    private static final int MOST = Edges.MOST, LEAST = Edges.LEAST;

    public static void main(String[] args) {
        Edges e = new Edges();
        newObject(e);
        rowNumbers(e);
        rowSizes(e);
        rowsAnew(e);
        sixFullRows(e);
        laying(e);
        laidInts(e);
        looking(e);
        tearing(e);
        copySizes(e);
        copyFromPlaces(e);
        copyToPlaces(e);
        copyOfNone(e);
        copyAsIfTakenAhead(e);
        copyBetweenAll(e);
        copyOfMissing(e);
        meansCut(e);
        meansOfMany(e);
        meanRefused(e);
        e.end("RowEdgesTest");
    }

    private static NeverTogether allOfOne() {
        return Edges.withRows(1, 1, 1, 1, 1, 1);
    }

    private static void newObject(Edges e) {
        e.sentence(1, "No ROWS, TEXTS, TIMEPIECES.");
        e.beginNew();
        for (int what = 0; what <= 8; what++) {
            int w = what;
            e.is("count(" + w + ")", x -> x.count(w), 0);
        }
        e.allFind("at(v, 0)", (x, r) -> x.at(r, 0), Edges.NOTHING, 0, 1, 2, 3, 4, 5);
        e.allFind("put(v, 0, 1)", (x, t) -> x.put(t, 0, 1), Edges.NOTHING, 0, 1, 2, 3);
        e.bad("piece(v, 0)", (x, i) -> x.piece(i, 0), -1, 0, 1, 5, 6);
        e.allFind("on(v)", (x, k) -> x.on(k), Edges.NOTHING, 0, 1, 2);
        e.refused("day()", x -> x.day(), Edges.STATE);
    }

    private static void rowNumbers(Edges e) {
        e.sentence(2, "ROWS 0 .. 5");
        e.beginNew();
        e.range("row(v, 3)", (x, r) -> x.row(r, 3), 0, 5, r -> 3);
        for (int r = 0; r <= 5; r++) {
            int row = r;
            e.is("row(" + r + ", 1) alone is there", x -> x.row(row, 1) + x.count(6) + x.at(row, 0), 3);
        }
    }

    private static void rowSizes(Edges e) {
        e.sentence(2, "A ROW is there with n ints 0: n. BAD: also n above 40; SIZE: below 0.");
        e.beginNew();
        e.in("row(2, v)", (x, n) -> x.row(2, n), n -> n, 0, 1, 2, 39, 40);
        e.bad("row(2, v)", (x, n) -> x.row(2, n), 41, 42, MOST);
        e.allFind("row(2, v)", (x, n) -> x.row(2, n), Edges.SIZE, -1, -2, LEAST);
        for (int n : new int[] {0, 1, 2, 39, 40}) {
            NeverTogether x = new NeverTogether();
            e.is("row(2, " + n + ")", x.row(2, n), n);
            e.rowIs("row(2, " + n + ")", x, 2, new int[n]);
        }
        e.begin(() -> Edges.withRows(1, 1, 2));
        e.bad("row(2, v) leaves what was there", (x, n) -> x.row(2, n), 41, MOST);
        e.allFind("row(2, v) leaves what was there", (x, n) -> x.row(2, n), Edges.SIZE, -1, LEAST);
    }

    private static void rowsAnew(Edges e) {
        e.sentence(2, "A ROW is there with n ints 0");
        NeverTogether x = new NeverTogether();
        x.row(3, 40);
        for (int i = 0; i < 40; i++) {
            x.lay(3, i, 7);
        }
        e.is("row(3, 2) anew", x.row(3, 2), 2);
        e.rowIs("row(3, 2) anew", x, 3, 0, 0);
        e.is("row(3, 40) anew", x.row(3, 40), 40);
        e.rowIs("row(3, 40) anew: nothing of what was there before", x, 3, new int[40]);
        e.is("one ROW all the time", x.count(6), 1);
    }

    private static void sixFullRows(Edges e) {
        e.sentence(0, "ROWS 0 .. 5 are rows of 0 to 40 ints");
        NeverTogether x = Edges.withRows(40, 40, 40, 40, 40, 40);
        for (int k = 0; k < 240; k++) {
            x.lay(k / 40, k % 40, 1000 + k);
        }
        long h = 17;
        for (int what = 0; what <= 8; what++) {
            h = 31 * h + (what == 6 ? 6 : 0);
        }
        for (int kept = 0; kept < 3; kept++) {
            h = 31 * h - 1;
        }
        for (int k = 0; k < 240; k++) {
            h = 31 * (k % 40 == 0 ? 31 * h + 40 : h) + 1000 + k;
        }
        for (int text = 0; text < 4; text++) {
            h = 31 * h - 1;
        }
        e.is("digest() of 240 ints, each in a place of its own", x.digest(), h);
    }

    private static void laying(Edges e) {
        e.sentence(3, "Place i of a ROW is v: what it was, told by asked(): 1. BAD; NOTHING; BEYOND.");
        e.begin(() -> Edges.withRows(1, 0, 5, 40));
        e.in("lay(2, v, 9)", (x, i) -> x.lay(2, i, 9), i -> 1, 0, 1, 3, 4);
        e.allFind("lay(2, v, 9)", (x, i) -> x.lay(2, i, 9), Edges.BEYOND, -1, 5, 6, LEAST, MOST);
        e.in("lay(0, v, 9) of one", (x, i) -> x.lay(0, i, 9), i -> 1, 0);
        e.allFind("lay(0, v, 9) of one", (x, i) -> x.lay(0, i, 9), Edges.BEYOND, -1, 1);
        e.allFind("lay(1, v, 9) of none", (x, i) -> x.lay(1, i, 9), Edges.BEYOND, -1, 0, 1);
        e.in("lay(3, v, 9) of 40", (x, i) -> x.lay(3, i, 9), i -> 1, 0, 1, 38, 39);
        e.allFind("lay(3, v, 9) of 40", (x, i) -> x.lay(3, i, 9), Edges.BEYOND, -1, 40, 41);
        e.allFind("lay(v, 0, 9) of missing ones", (x, r) -> x.lay(r, 0, 9), Edges.NOTHING, 4, 5);
        e.begin(RowEdgesTest::allOfOne);
        e.range("lay(v, 0, 9)", (x, r) -> x.lay(r, 0, 9), 0, 5, r -> 1);
        NeverTogether x = Edges.withRows(5);
        x.lay(0, 2, 9);
        e.rowIs("lay(0, 2, 9) leaves the others", x, 0, 0, 0, 9, 0, 0);
    }

    private static void laidInts(Edges e) {
        e.sentence(3, "Place i of a ROW is v: what it was, told by asked()");
        for (int v : new int[] {LEAST, LEAST + 1, -1, 0, 1, MOST - 1, MOST}) {
            NeverTogether x = Edges.withRows(1);
            e.told("lay(0, 0, " + v + ") tells what was there", x, x.lay(0, 0, v), 1, 0);
            e.told("lay(0, 0, 5) tells " + v, x, x.lay(0, 0, 5), 1, v);
            e.told("at(0, 0) tells 5", x, x.at(0, 0), 1, 5);
        }
    }

    private static void looking(Edges e) {
        e.sentence(4, "Place i of a ROW, told by asked(): 1. BAD; NOTHING; BEYOND.");
        e.begin(() -> Edges.withRows(1, 0, 5, 40));
        e.in("at(2, v)", (x, i) -> x.at(2, i), i -> 1, 0, 1, 3, 4);
        e.allFind("at(2, v)", (x, i) -> x.at(2, i), Edges.BEYOND, -1, 5, 6, LEAST, MOST);
        e.in("at(0, v) of one", (x, i) -> x.at(0, i), i -> 1, 0);
        e.allFind("at(0, v) of one", (x, i) -> x.at(0, i), Edges.BEYOND, -1, 1);
        e.allFind("at(1, v) of none", (x, i) -> x.at(1, i), Edges.BEYOND, -1, 0, 1);
        e.in("at(3, v) of 40", (x, i) -> x.at(3, i), i -> 1, 0, 1, 38, 39);
        e.allFind("at(3, v) of 40", (x, i) -> x.at(3, i), Edges.BEYOND, -1, 40, 41);
        e.allFind("at(v, 0) of missing ones", (x, r) -> x.at(r, 0), Edges.NOTHING, 4, 5);
        e.begin(RowEdgesTest::allOfOne);
        e.range("at(v, 0)", (x, r) -> x.at(r, 0), 0, 5, r -> 1);
    }

    private static void tearing(Edges e) {
        e.sentence(5, "A ROW is missing: 1. BAD; NOTHING.");
        e.begin(RowEdgesTest::allOfOne);
        e.range("tear(v)", (x, r) -> x.tear(r), 0, 5, r -> 1);
        e.in("tear(v) leaves five", (x, r) -> 10 * x.tear(r) + x.count(6), r -> 15, 0, 1, 4, 5);
        e.begin(() -> {
            NeverTogether x = allOfOne();
            x.tear(0);
            x.tear(5);
            return x;
        });
        e.allFind("tear(v) again", (x, r) -> x.tear(r), Edges.NOTHING, 0, 5);
        e.in("tear(v) of those next to them", (x, r) -> x.tear(r), r -> 1, 1, 4);
        e.begin(() -> Edges.withRows(0, 40));
        e.in("tear(v) of none, of 40", (x, r) -> x.tear(r), r -> 1, 0, 1);
        e.allFind("tear(v) that never was", (x, r) -> x.tear(r), Edges.NOTHING, 2, 3);
    }

    /** 1 2 3 4 5 in ROW 0, 11 12 13 in ROW 1. */
    private static NeverTogether fiveAndThree() {
        NeverTogether x = Edges.withRows(5, 3);
        for (int i = 0; i < 5; i++) {
            x.lay(0, i, 1 + i);
        }
        for (int i = 0; i < 3; i++) {
            x.lay(1, i, 11 + i);
        }
        return x;
    }

    private static void copied(Edges e, String call, Edges.Call of, int v, int row, int... due) {
        NeverTogether x = fiveAndThree();
        e.is(call, of.of(x, v), 1);
        e.rowIs(call, x, row, due);
    }

    private static void copySizes(Edges e) {
        e.sentence(6, "n places of a ROW .. SIZE: n below 0; .. BEYOND: not so many there.");
        e.begin(RowEdgesTest::fiveAndThree);
        e.in("copy(0, 0, 1, 0, v): three there", (x, n) -> x.copy(0, 0, 1, 0, n), n -> 1, 0, 1, 2, 3);
        e.allFind("copy(0, 0, 1, 0, v)", (x, n) -> x.copy(0, 0, 1, 0, n), Edges.BEYOND, 4, 5, 6, 40, 41, MOST);
        e.in("copy(1, 0, 0, 0, v): three to be taken", (x, n) -> x.copy(1, 0, 0, 0, n), n -> 1, 0, 1, 2, 3);
        e.allFind("copy(1, 0, 0, 0, v)", (x, n) -> x.copy(1, 0, 0, 0, n), Edges.BEYOND, 4, 5, 6, 40, 41, MOST);
        e.allFind("copy(0, 0, 1, 0, v)", (x, n) -> x.copy(0, 0, 1, 0, n), Edges.SIZE, -1, -2, LEAST);
        copied(e, "copy(0, 0, 1, 0, 0)", (x, n) -> x.copy(0, 0, 1, 0, n), 0, 1, 11, 12, 13);
        copied(e, "copy(0, 0, 1, 0, 1)", (x, n) -> x.copy(0, 0, 1, 0, n), 1, 1, 1, 12, 13);
        copied(e, "copy(0, 0, 1, 0, 3)", (x, n) -> x.copy(0, 0, 1, 0, n), 3, 1, 1, 2, 3);
        copied(e, "copy(0, 0, 1, 0, 3)", (x, n) -> x.copy(0, 0, 1, 0, n), 3, 0, 1, 2, 3, 4, 5);
    }

    private static void copyFromPlaces(Edges e) {
        e.sentence(6, "from one on .. BEYOND");
        e.begin(RowEdgesTest::fiveAndThree);
        e.in("copy(0, v, 1, 0, 3)", (x, i) -> x.copy(0, i, 1, 0, 3), i -> 1, 0, 1, 2);
        e.allFind("copy(0, v, 1, 0, 3)", (x, i) -> x.copy(0, i, 1, 0, 3), Edges.BEYOND, -1, 3, 4, 5, LEAST, MOST);
        e.in("copy(0, v, 1, 0, 1)", (x, i) -> x.copy(0, i, 1, 0, 1), i -> 1, 0, 3, 4);
        e.allFind("copy(0, v, 1, 0, 1)", (x, i) -> x.copy(0, i, 1, 0, 1), Edges.BEYOND, -1, 5, 6, LEAST, MOST);
        e.allFind("copy(0, v, 1, 0, MOST): the sum wraps around", (x, i) -> x.copy(0, i, 1, 0, MOST), Edges.BEYOND,
            0, 1, 2, 5, MOST);
        copied(e, "copy(0, 2, 1, 0, 3)", (x, i) -> x.copy(0, i, 1, 0, 3), 2, 1, 3, 4, 5);
        copied(e, "copy(0, 4, 1, 0, 1)", (x, i) -> x.copy(0, i, 1, 0, 1), 4, 1, 5, 12, 13);
    }

    private static void copyToPlaces(Edges e) {
        e.sentence(6, "to those of another one from one on .. BEYOND");
        e.begin(RowEdgesTest::fiveAndThree);
        e.in("copy(1, 0, 0, v, 3)", (x, j) -> x.copy(1, 0, 0, j, 3), j -> 1, 0, 1, 2);
        e.allFind("copy(1, 0, 0, v, 3)", (x, j) -> x.copy(1, 0, 0, j, 3), Edges.BEYOND, -1, 3, 4, 5, LEAST, MOST);
        e.in("copy(1, 0, 0, v, 1)", (x, j) -> x.copy(1, 0, 0, j, 1), j -> 1, 0, 3, 4);
        e.allFind("copy(1, 0, 0, v, 1)", (x, j) -> x.copy(1, 0, 0, j, 1), Edges.BEYOND, -1, 5, 6, LEAST, MOST);
        e.allFind("copy(1, 0, 0, v, MOST): the sum wraps around", (x, j) -> x.copy(1, 0, 0, j, MOST), Edges.BEYOND,
            0, 1, 2, 5, MOST);
        copied(e, "copy(1, 0, 0, 2, 3)", (x, j) -> x.copy(1, 0, 0, j, 3), 2, 0, 1, 2, 11, 12, 13);
        copied(e, "copy(1, 2, 0, 4, 1)", (x, j) -> x.copy(1, 2, 0, j, 1), 4, 0, 1, 2, 3, 4, 13);
    }

    /** None may stand at a ROW's very end: there are none there. */
    private static void copyOfNone(Edges e) {
        e.sentence(6, "n places (none) .. BEYOND: not so many there.");
        e.begin(() -> Edges.withRows(5, 3, 0));
        e.in("copy(0, v, 1, 0, 0)", (x, i) -> x.copy(0, i, 1, 0, 0), i -> 1, 0, 4, 5);
        e.allFind("copy(0, v, 1, 0, 0)", (x, i) -> x.copy(0, i, 1, 0, 0), Edges.BEYOND, -1, 6, LEAST, MOST);
        e.in("copy(0, 0, 1, v, 0)", (x, j) -> x.copy(0, 0, 1, j, 0), j -> 1, 0, 2, 3);
        e.allFind("copy(0, 0, 1, v, 0)", (x, j) -> x.copy(0, 0, 1, j, 0), Edges.BEYOND, -1, 4, LEAST, MOST);
        e.in("copy(2, v, 2, 0, 0)", (x, i) -> x.copy(2, i, 2, 0, 0), i -> 1, 0);
        e.allFind("copy(2, v, 2, 0, 0)", (x, i) -> x.copy(2, i, 2, 0, 0), Edges.BEYOND, -1, 1);
        e.allFind("copy(2, 0, 2, 0, v)", (x, n) -> x.copy(2, 0, 2, 0, n), Edges.BEYOND, 1);
    }

    private static void copyAsIfTakenAhead(Edges e) {
        e.sentence(6, "(perhaps itself) .. as if taken ahead");
        copied(e, "copy(0, 0, 0, 1, 4): one up", (x, j) -> x.copy(0, 0, 0, j, 4), 1, 0, 1, 1, 2, 3, 4);
        copied(e, "copy(0, 1, 0, 0, 4): one down", (x, j) -> x.copy(0, 1, 0, j, 4), 0, 0, 2, 3, 4, 5, 5);
        copied(e, "copy(0, 0, 0, 3, 2): behind itself", (x, j) -> x.copy(0, 0, 0, j, 2), 3, 0, 1, 2, 3, 1, 2);
        copied(e, "copy(0, 0, 0, 0, 5): onto itself", (x, j) -> x.copy(0, 0, 0, j, 5), 0, 0, 1, 2, 3, 4, 5);
    }

    private static void copyBetweenAll(Edges e) {
        e.sentence(6, "BAD (ROWS 0 .. 5)");
        e.begin(RowEdgesTest::allOfOne);
        e.range("copy(v, 0, 2, 0, 1)", (x, r) -> x.copy(r, 0, 2, 0, 1), 0, 5, r -> 1);
        e.range("copy(2, 0, v, 0, 1)", (x, to) -> x.copy(2, 0, to, 0, 1), 0, 5, to -> 1);
        NeverTogether x = Edges.withRows(40, 40);
        for (int i = 0; i < 40; i++) {
            x.lay(0, i, i);
        }
        e.is("copy(0, 0, 1, 0, 40)", x.copy(0, 0, 1, 0, 40), 1);
        int[] all = new int[40];
        for (int i = 0; i < 40; i++) {
            all[i] = i;
        }
        e.rowIs("copy of 40", x, 1, all);
        e.found("copy of 41", x, () -> x.copy(0, 0, 1, 0, 41), Edges.BEYOND);
    }

    private static void copyOfMissing(Edges e) {
        e.sentence(6, "NOTHING: either");
        e.begin(() -> Edges.withRows(2, 2));
        e.in("copy(0, 0, v, 0, 1)", (x, to) -> x.copy(0, 0, to, 0, 1), to -> 1, 0, 1);
        e.allFind("copy(0, 0, v, 0, 1)", (x, to) -> x.copy(0, 0, to, 0, 1), Edges.NOTHING, 2, 5);
        e.allFind("copy(v, 0, 0, 0, 1)", (x, r) -> x.copy(r, 0, 0, 0, 1), Edges.NOTHING, 2, 5);
        e.allFind("copy(v, 0, v, 0, 1)", (x, r) -> x.copy(r, 0, r, 0, 1), Edges.NOTHING, 2, 5);
        e.allFind("copy(0, 0, v, 0, 0) of none", (x, to) -> x.copy(0, 0, to, 0, 0), Edges.NOTHING, 2, 5);
        e.is("no ROW comes by it", x -> x.copy(0, 0, 2, 0, 1) + x.count(6), -3 + 2);
    }

    private static void mean(Edges e, int want, int... ints) {
        NeverTogether x = new NeverTogether();
        e.due.row(x, 5, ints);
        e.told("mean of " + java.util.Arrays.toString(ints), x, x.mean(5), 1, want);
        e.rowIs("mean leaves the ROW", x, 5, ints);
    }

    private static void meansCut(Edges e) {
        e.sentence(7, "The mean of a ROW's ints, cut, told by asked(): 1.");
        mean(e, 2, 2, 2, 2);
        mean(e, 2, 2, 2, 3);
        mean(e, 2, 2, 3, 3);
        mean(e, 3, 3, 3, 3);
        mean(e, -2, -2, -2, -2);
        mean(e, -2, -2, -2, -3);
        mean(e, -2, -2, -3, -3);
        mean(e, -3, -3, -3, -3);
        mean(e, 0, 0, 1);
        mean(e, 0, 0, -1);
        mean(e, 1, 1, 1);
        mean(e, -1, -1, -1);
    }

    private static int[] filled(int n, int v) {
        int[] ints = new int[n];
        java.util.Arrays.fill(ints, v);
        return ints;
    }

    private static void meansOfMany(Edges e) {
        e.sentence(7, "The mean of a ROW's ints (of 0 to 40 ints)");
        mean(e, MOST, MOST);
        mean(e, LEAST, LEAST);
        mean(e, MOST, MOST, MOST);
        mean(e, LEAST, LEAST, LEAST);
        mean(e, 0, MOST, LEAST);
        mean(e, MOST - 1, MOST, MOST - 1);
        mean(e, LEAST + 1, LEAST, LEAST + 1, LEAST + 1);
        mean(e, MOST, filled(40, MOST));
        mean(e, LEAST, filled(40, LEAST));
    }

    private static void meanRefused(Edges e) {
        e.sentence(7, "The mean of a ROW's ints .. BAD; NOTHING; NOUGHT.");
        e.begin(() -> Edges.withRows(0, 1, 2));
        e.allFind("mean(v) of none", (x, r) -> x.mean(r), Edges.NOUGHT, 0);
        e.in("mean(v) of one, of two", (x, r) -> x.mean(r), r -> 1, 1, 2);
        e.allFind("mean(v) of missing ones", (x, r) -> x.mean(r), Edges.NOTHING, 3, 4, 5);
        e.begin(RowEdgesTest::allOfOne);
        e.range("mean(v)", (x, r) -> x.mean(r), 0, 5, r -> 1);
    }
}
