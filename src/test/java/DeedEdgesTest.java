/** The edges of promises 15 to 19, and of DAYS and DEEDS, sentence by sentence. */
public final class DeedEdgesTest {
    private static final String TWO = "z12 c0050 b3040";

    public static void main(String[] args) {
        Edges e = new Edges();
        daysPass(e);
        pairsThen(e);
        dayRefused(e);
        touchedBy(e);
        touchNumbers(e);
        onceADay(e);
        fortyDeeds(e);
        undoNumbers(e);
        undoneToEachDeed(e);
        undoWithoutPieces(e);
        keepNumbers(e);
        keepWithoutPieces(e);
        onNumbers(e);
        onAsItWasKept(e);
        e.end("DeedEdgesTest");
    }

    private static void daysPass(Edges e) {
        e.sentence(15, "A DAY passes");
        for (int days : new int[] {0, 1, 2, 39, 40}) {
            e.beginAfter(TWO, days);
            e.is("the DAY behind " + days, x -> x.count(1), days);
            e.is("DEEDS behind " + days, x -> x.count(2), days);
            e.is("a PLAIN one from 0 by 1", x -> x.minute(0, 0), days);
            e.is("a BRASS one from 30 by HEATS 1 2", x -> x.minute(1, 0), Edges.ring(30 + days / 2 * 3 + days % 2));
        }
    }

    private static void pairsThen(Edges e) {
        e.sentence(15, "how many pairs MEET then");
        e.beginHouse("z0 c0040");
        e.is("day() of one", x -> x.day(), 0);
        e.beginHouse("z0 c0050 c0050 c0050 c0050 c0050 c0050");
        e.is("day() of six together", x -> x.day(), 15);
        e.beginHouse("z3 c0040 b5740 c3040");
        e.is("day(): then, not now", x -> x.day(), 1);
        e.is("day() once more", x -> Edges.last(x.day(), x.day()), 0);
        e.beginHouse("z3 c0040 b0040");
        e.is("day(): now, not then", x -> x.day(), 0);
    }

    private static void dayRefused(Edges e) {
        e.sentence(15, "STATE: no TIMEPIECES; FULL.");
        e.beginNew();
        e.refused("day() of none", x -> x.day(), Edges.STATE);
        for (int deeds : new int[] {38, 39}) {
            e.beginAfter(TWO, deeds);
            e.is("day() behind " + deeds, x -> Edges.last(x.day(), x.count(2)), deeds + 1);
        }
        e.beginAfter(TWO, 40);
        e.refused("day() behind 40", x -> x.day(), Edges.FULL);
        e.is("day() behind one undone", x -> Edges.last(x.undo(39), x.day(), x.count(2)), 40);
    }

    private static void touchedBy(Edges e) {
        e.sentence(16, "its MINUTE then. BAD: also 0, below -5, above 5");
        for (int minute : new int[] {0, 1, 4, 5, 30, 54, 55, 58, 59}) {
            e.beginHouse("z3 c" + minute / 10 + minute % 10 + "90");
            e.in("touch(0, v) at " + minute, (x, by) -> x.touch(0, by), by -> Edges.ring(minute + by),
                -5, -4, -3, -2, -1, 1, 2, 3, 4, 5);
            e.in("minute(0, 0) behind touch(0, v) at " + minute, (x, by) -> Edges.last(x.touch(0, by), x.minute(0, 0)),
                by -> Edges.ring(minute + by), -5, -1, 1, 5);
            e.bad("touch(0, v) at " + minute, (x, by) -> x.touch(0, by), 0, -6, 6, -7, 7, Edges.LEAST, Edges.MOST);
        }
        e.beginHouse("z3 s5950");
        e.in("touch(0, v) of a STOPPED one", (x, by) -> x.touch(0, by), by -> Edges.ring(59 + by), -5, -1, 1, 5);
    }

    private static void touchNumbers(Edges e) {
        e.sentence(16, "A TIMEPIECE is TOUCHED .. BAD");
        e.beginHouse("z0 c0040c1040c2040c3040c4040c5040");
        e.range("touch(v, 3) of six", (x, i) -> x.touch(i, 3), 0, 5, i -> 10 * i + 3);
        e.in("touch(v, 3) leaves the others", (x, i) -> Edges.last(x.touch(i, 3), x.minute((i + 1) % 6, 0)),
            i -> (i + 1) % 6 * 10, 0, 1, 2, 3, 4, 5);
        e.beginHouse("z0 c0040");
        e.range("touch(v, 3) of one", (x, i) -> x.touch(i, 3), 0, 0, i -> 3);
        e.beginNew();
        e.bad("touch(v, 3) of none", (x, i) -> x.touch(i, 3), -1, 0, 1);
    }

    private static void onceADay(Edges e) {
        e.sentence(16, "STATE: it was this DAY");
        e.begin(() -> {
            NeverTogether x = e.due.house("z0 c0040 c3050");
            x.touch(0, 2);
            return x;
        });
        for (int by : new int[] {-5, -2, 1, 5}) {
            e.refused("touch(0, " + by + ") again", x -> x.touch(0, by), Edges.STATE);
        }
        e.is("touch(1, 2): another one", x -> x.touch(1, 2), 32);
        e.is("touch(0, 1) the next DAY", x -> Edges.last(x.day(), x.touch(0, 1)), 3);
        e.is("touch(0, 1) thrice", x -> Edges.last(x.day(), x.touch(0, 1), x.touch(0, 1)), Edges.STATE);
        e.is("touch(0, 1) behind undo(0)", x -> Edges.last(x.undo(0), x.touch(0, 1)), 1);
        e.is("touch(0, 1) behind undo(1)", x -> Edges.last(x.undo(1), x.touch(0, 1)), Edges.STATE);
        e.is("touch(0, 1), the DAY undone", x -> Edges.last(x.day(), x.undo(1), x.touch(0, 1)), Edges.STATE);
        e.is("one DEED, as the second was refused", x -> Edges.last(x.touch(0, 1), x.count(2)), 1);
    }

    private static void fortyDeeds(Edges e) {
        e.sentence(16, "FULL.");
        for (int deeds : new int[] {38, 39}) {
            e.beginAfter("z0 c0040 c3040", deeds);
            e.is("touch(0, 1) behind " + deeds, x -> x.touch(0, 1), 1);
            e.is("DEEDS behind " + deeds, x -> Edges.last(x.touch(0, 1), x.count(2)), deeds + 1);
        }
        e.beginAfter("z0 c0040 c3040", 40);
        e.refused("touch(0, 1) behind 40", x -> x.touch(0, 1), Edges.FULL);
        e.refused("touch(1, -5) behind 40", x -> x.touch(1, -5), Edges.FULL);
        e.begin(() -> {
            NeverTogether x = Edges.passed(e.due.house("z0 c0040 c3040"), 39);
            x.touch(0, 1);
            return x;
        });
        e.refused("day() behind 39 DAYS and a TOUCH", x -> x.day(), Edges.FULL);
        e.refused("touch(1, 1) behind 39 DAYS and a TOUCH", x -> x.touch(1, 1), Edges.FULL);
    }

    private static void undoNumbers(Edges e) {
        e.sentence(17, "DEEDS from number n on are undone: how many. BAD.");
        for (int deeds : new int[] {0, 1, 2, 3, 39, 40}) {
            e.beginAfter(TWO, deeds);
            e.range("undo(v) of " + deeds, (x, n) -> x.undo(n), 0, deeds, n -> deeds - n);
            e.in("DEEDS behind undo(v) of " + deeds, (x, n) -> Edges.last(x.undo(n), x.count(2)), n -> n,
                0, deeds / 2, deeds);
        }
        e.beginAfter(TWO, 40);
        e.bad("undo(v) of 40", (x, n) -> x.undo(n), 41, 42);
        e.beginAfter(TWO, 3);
        e.is("undo(2) twice", x -> Edges.last(x.undo(2), x.undo(2)), 0);
        e.is("undo(3) behind undo(2)", x -> Edges.last(x.undo(2), x.undo(3)), Edges.BAD);
    }

    /** Forty DEEDS, TOUCHES and DAYS by turns, up to a number of them. */
    private static NeverTogether deeds(Due due, int many) {
        NeverTogether x = due.house("z12 c5850 b3040 s2090");
        for (int k = 0; k < many; k++) {
            if (k % 3 == 2) {
                x.day();
            } else {
                x.touch(k % 3 + k / 3 % 2, 5 - k % 11 == 0 ? 1 : 5 - k % 11);
            }
        }
        due.is("DEEDS", x.count(2), many);
        return x;
    }

    private static void undoneToEachDeed(Edges e) {
        e.sentence(17, "DEEDS from number n on are undone");
        for (int n = 0; n <= 40; n++) {
            NeverTogether x = deeds(e.due, 40);
            e.is("undo(" + n + ") of 40", x.undo(n), 40 - n);
            NeverTogether due = deeds(e.due, n);
            e.is("as it was behind " + n, x.digest(), due.digest());
            e.is("what comes behind " + n, x.day(), due.day());
            e.isTrue("as it goes on behind " + n, n == 40 || x.digest() == due.digest());
        }
    }

    private static void undoWithoutPieces(Edges e) {
        e.sentence(17, "DEEDS (none) from number n on are undone: how many. BAD.");
        e.beginNew();
        e.range("undo(v) of none", (x, n) -> x.undo(n), 0, 0, n -> 0);
    }

    private static void keepNumbers(Edges e) {
        e.sentence(18, "is kept in a place (0 .. 2): how many DEEDS. BAD");
        for (int deeds : new int[] {0, 1, 39, 40}) {
            e.beginAfter(TWO, deeds);
            e.range("keep(v) behind " + deeds, (x, k) -> x.keep(k), 0, 2, k -> deeds);
            e.in("how many are kept by keep(v)", (x, k) -> Edges.last(x.keep(k), x.count(8)), k -> 1, 0, 1, 2);
        }
        e.beginAfter(TWO, 2);
        e.is("all three kept", x -> Edges.last(x.keep(0), x.keep(1), x.keep(2), x.count(8)), 3);
        e.is("one kept twice", x -> Edges.last(x.keep(1), x.keep(1), x.count(8)), 1);
        e.is("kept anew", x -> Edges.last(x.keep(1), x.day(), x.keep(1), x.undo(0), x.on(1)), 3);
    }

    private static void keepWithoutPieces(Edges e) {
        e.sentence(18, "STATE: no TIMEPIECES.");
        e.beginNew();
        for (int k = 0; k <= 2; k++) {
            int place = k;
            e.refused("keep(" + k + ")", x -> x.keep(place), Edges.STATE);
        }
        e.finds("keep(0), then on(0)", x -> Edges.last(x.keep(0), x.on(0)), Edges.NOTHING);
    }

    private static void onNumbers(Edges e) {
        e.sentence(19, "The HOUSE is as it was kept: how many DEEDS. BAD; NOTHING.");
        e.begin(() -> {
            NeverTogether x = e.due.house(TWO);
            x.keep(0);
            x.day();
            x.keep(1);
            Edges.passed(x, 39);
            x.keep(2);
            return x;
        });
        e.range("on(v)", (x, k) -> x.on(k), 0, 2, k -> new int[] {0, 1, 40}[k]);
        e.in("the DAY behind on(v)", (x, k) -> Edges.last(x.on(k), x.count(1)), k -> new int[] {0, 1, 40}[k], 0, 1, 2);
        e.in("a DAY behind on(v)", (x, k) -> Edges.last(x.on(k), x.day()), k -> k == 2 ? Edges.FULL : 0, 0, 1, 2);
        e.in("on(v) again: it is still kept", (x, k) -> Edges.last(x.on(k), x.undo(0), x.on(k), x.count(2)),
            k -> new int[] {0, 1, 40}[k], 0, 1, 2);
        for (int there = 0; there <= 2; there++) {
            int place = there;
            e.begin(() -> {
                NeverTogether x = e.due.house(TWO);
                x.keep(place);
                return x;
            });
            e.in("on(v), the one that is kept", (x, k) -> x.on(k), k -> 0, there);
            e.allFind("on(v) with " + there + " kept", (x, k) -> x.on(k), Edges.NOTHING, (there + 1) % 3, (there + 2) % 3);
        }
    }

    private static void onAsItWasKept(Edges e) {
        e.sentence(19, "The HOUSE is as it was kept");
        for (int n = 0; n <= 40; n++) {
            NeverTogether x = deeds(e.due, n);
            e.is("keep(1) behind " + n, x.keep(1), n);
            long kept = x.digest();
            x.undo(n / 2);
            x.touch(2, 5);
            x.day();
            e.is("on(1) of " + n, x.on(1), n);
            e.is("as it was kept behind " + n, x.digest(), kept);
            e.is("what comes behind " + n, x.day(), deeds(e.due, n).day());
            e.is("undo(" + n / 3 + ")", x.undo(n / 3), Math.min(n + 1, 40) - n / 3);
            e.is("a MINUTE behind " + n / 3, x.minute(0, 0), deeds(e.due, n / 3).minute(0, 0));
        }
        NeverTogether x = e.due.house("z0 c0040 c3040");
        x.touch(0, 5);
        x.keep(2);
        long kept = x.digest();
        x.undo(0);
        x.touch(1, 3);
        x.day();
        x.on(2);
        e.is("on(2): all as it was kept", x.digest(), kept);
        e.refused("TOUCHED this DAY", x, () -> x.touch(0, 1), Edges.STATE);
        e.is("the other one not", x.touch(1, 1), 31);
        e.is("undo(0) of what was kept and one more", x.undo(0), 2);
        e.is("as it was at first", x.minute(0, 0), 0);
    }
}
