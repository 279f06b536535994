/** Promises 28 to 31 with ordinary inputs: apart, stairs, doomed, out. */
public final class ApartTest {
    private static final int NONE = NeverTogether.NONE;

    public static void main(String[] args) {
        Due due = new Due();
        fewest(due);
        none(due);
        byStairs(due);
        doom(due);
        carrying(due);
        due.end("ApartTest");
    }

    private static void fewest(Due due) {
        NeverTogether free = due.house("z0 c0040 c0140");
        due.row(free, 2, 9, 9, 9);
        due.is("none is to be TOUCHED", free.apart(7, 2), 0);
        due.rowIs("the ROW comes anew", free, 2, 0, 0);
        NeverTogether x = due.house("z0 c0040 c0040 c0040");
        due.is("two of three at once", x.apart(0, 5), 2);
        due.rowIs("the first by -2, the second by -1", x, 5, -2, -1, 0);
        NeverTogether y = due.house("z0 c0040 c0040");
        due.is("one of two", y.apart(7, 0), 1);
        due.rowIs("the first by -2", y, 0, -2, 0);
        NeverTogether z = due.house("z0 s0040 c0250");
        due.is("DAYS 0 .. 7 none MEET", z.apart(7, 0), 0);
        NeverTogether w = due.house("z0 s0040 c5850");
        due.is("c comes to 0 in 2 DAYS: 0 and 1 are free", w.apart(1, 0), 0);
        due.is("for DAYS 0 .. 2 one goes aside", w.apart(2, 0), 1);
        due.rowIs("s by -2, -1 would be at 58, 59: c by -2", w, 0, 0, -2);
        due.is("for DAYS 0 .. 3", w.apart(3, 0), 1);
        due.rowIs("c by -2 is at 56, 57, 58, 59", w, 0, 0, -2);
        due.is("for DAYS 0 .. 4 neither alone will do", w.apart(4, 0), 2);
        due.rowIs("s by -2 is at 58, c by 1 at 59 .. 3", w, 0, -2, 1);
        due.is("touch(1, -1)", w.touch(1, -1), 57);
        due.is("though c was TOUCHED", w.apart(3, 0), 1);
        due.rowIs("c from 57 by -2", w, 0, 0, -2);
        NeverTogether warm = due.house("z3 s0040 b5740 c1040");
        due.is("b is at 0 on DAY 1, not now", warm.apart(0, 0), 0);
        due.is("on DAY 1 s goes aside", warm.apart(1, 0), 1);
        due.rowIs("by -2", warm, 0, -2, 0, 0);
    }

    private static void none(Due due) {
        due.is("six CHIMES at one MINUTE", due.house("z0m0040m0040m0040m0040m0040m0040").apart(0, 0), NONE);
        NeverTogether y = due.house("z0 m0040 m0040 m0040");
        due.row(y, 0, 3, 4);
        due.told("lay(0, 0, 5)", y, y.lay(0, 0, 5), 1, 3);
        due.is("three CHIMES need six MINUTES between them", y.apart(0, 0), NONE);
        due.is("asked() as it was", y.asked(), 3);
        due.is("and stairs()", y.stairs(0), NONE);
        due.is("asked() as it was", y.asked(), 3);
        due.rowIs("the ROW is as it was", y, 0, 5, 4);
        due.is("missing ROW", y.apart(0, 1), NONE);
        due.is("no ROW more", y.count(6), 1);
    }

    private static void byStairs(Due due) {
        NeverTogether free = due.house("z0 c0043 c0143");
        due.told("none", free, free.stairs(7), 0, 0);
        NeverTogether x = due.house("z0 c0043 c0041");
        due.told("the lower one", x, x.stairs(0), 2, 2);
        NeverTogether y = due.house("z0 c0042 c0042");
        due.told("of as high ones the first", y, y.stairs(0), 4, 1);
        NeverTogether z = due.house("z0 c0043 c0040 c0040");
        due.told("two below", z, z.stairs(0), 0, 6);
        NeverTogether w = due.house("z0 m0043 c0041 c0141 c0240 c3040");
        due.told("one above by 6, or three below by 2", w, w.stairs(0), 2, 14);
        NeverTogether v = due.house("z0 m0041 c0041 c0141 c0241 c3040");
        due.told("of as few STAIRS the fewest, the least: not 13, not 14", v, v.stairs(0), 2, 7);
        due.told("DAYS 0 .. 7", free, free.stairs(7), 0, 0);
    }

    private static void doom(Due due) {
        NeverTogether empty = new NeverTogether();
        due.told("doomed(0) without TIMEPIECES", empty, empty.doomed(0), 0, NONE);
        NeverTogether x = due.house("z0 c3040 s0040 c5650");
        due.told("in 7 DAYS c by -2, s by 2 are still apart", x, x.doomed(7), 0, NONE);
        due.told("in 8 DAYS, too: s by -2 is behind c by 2 never", x, x.doomed(8), 1, 6 * 1 + 2);
        due.told("in 36 DAYS c comes by 30 but for its TOUCHES", x, x.doomed(36), 1, 8);
        due.told("in 38 DAYS both", x, x.doomed(38), 2, 2);
        due.told("in 60 DAYS", x, x.doomed(60), 2, 2);
        NeverTogether chimes = due.house("z0 m0040 m0040");
        due.told("two CHIMES can be 4 from one another", chimes, chimes.doomed(60), 0, NONE);
    }

    private static void carrying(Due due) {
        NeverTogether empty = new NeverTogether();
        due.told("out(0) without TIMEPIECES", empty, empty.out(0), 0, 0);
        NeverTogether x = due.house("z0 c0040 c0140 m0040 c0240 c2040 c1950");
        due.told("none", empty, empty.out(60), 0, 0);
        NeverTogether free = due.house("z3 s0040 b5740 c1040");
        due.told("none on DAY 0", free, free.out(0), 0, 0);
        due.told("b at 0 on DAY 1", free, free.out(1), 1, 1);
        due.told("b at 0 on DAY 1, at 10 never (it is 57, 0, 3, ..)", free, free.out(60), 1, 1);
        due.told("the CHIME alone", x, x.out(0), 1, 4);
        due.told("and one of 20", x, x.out(1), 2, 4 + 16);
        due.told("c from 19 round to 0, 1, 2 in 41, 42, 43 DAYS", x, x.out(40), 2, 4 + 16);
        due.told("the one that goes round", x, x.out(41), 2, 4 + 32);
        due.told("in 60 DAYS", x, x.out(60), 2, 4 + 32);
        NeverTogether y = due.house("z0 c0040 c0040 c0040 c0040 c0040 c0040");
        due.told("all but one, the last", y, y.out(0), 5, 31);
    }
}
