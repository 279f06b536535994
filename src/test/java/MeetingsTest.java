/** Promises 20 to 27 with ordinary inputs: minute, meet, meets, soon, often, sounds, room, right. */
public final class MeetingsTest {
    private static final int NONE = NeverTogether.NONE;

    public static void main(String[] args) {
        Due due = new Due();
        minutes(due);
        meeting(due);
        pairs(due);
        soonest(due);
        oftenness(due);
        sounding(due);
        rooms(due);
        rightness(due);
        due.end("MeetingsTest");
    }

    private static void minutes(Due due) {
        NeverTogether x = due.house("z12 c0000 b0040 r0040 s0790");
        due.is("c loses 4 in a DAY", x.minute(0, 1), 56);
        due.is("c in 15 DAYS", x.minute(0, 15), 0);
        due.is("b by HEATS 1 2 1", x.minute(1, 3), 4);
        due.is("r by HEATS 1 2 1", x.minute(2, 3), 56);
        due.is("b in 420 DAYS: 630 more", x.minute(1, 420), 30);
        due.is("s stands", x.minute(3, 420), 7);
        due.is("day()", x.day(), 0);
        due.is("b from DAY 1 on by HEATS 2 1 2", x.minute(1, 3), 6);
        due.is("touch(1, 3)", x.touch(1, 3), 4);
        due.is("b, TOUCHED", x.minute(1, 3), 9);
    }

    private static void meeting(Due due) {
        NeverTogether x = due.house("z0 s0040 c0150 c0040 m5840 k0140 c2060");
        due.is("one from 1 by 1 comes to 0 in 59", x.meet(0, 1), 59);
        due.is("the other way round", x.meet(1, 0), 59);
        due.is("both at 0", x.meet(0, 2), 0);
        due.is("CHIME at 58 strikes at 0", x.meet(0, 3), 0);
        due.is("CHIME at 58 does not strike at 1", x.meet(3, 4), NONE);
        due.is("c from 20 by 2 comes to 0 in 20", x.meet(0, 5), 20);
        due.is("c from 20 by 2 to k at 1, 2 in 21", x.meet(4, 5), 21);
        // HEAT 1 once in 7 DAYS: from 0 the BRASS one is at 59 after the 59th such DAY, the 413th.
        NeverTogether y = due.house("z0000001 b0040 c5940 c0040");
        due.is("in 413 DAYS", y.meet(0, 1), 413);
        due.is("touch(1, 1)", y.touch(1, 1), 0);
        due.is("touch(0, 1)", y.touch(0, 1), 1);
        due.is("from 1 to 60: 413 again", y.meet(0, 1), 413);
        NeverTogether z = due.house("z0000001 b0140 c0040 c0040");
        due.is("day()", z.day(), 1);
        due.is("on DAY 1 it is one less", z.meet(0, 1), 412);
        NeverTogether w = due.house("z1000000 b0140 c0140");
        due.is("day()", w.day(), 0);
        due.is("back at 1: the 59 DAYS 7, 14, .. 413 of HEAT 1 have passed by DAY 414", w.meet(0, 1), 413);
        NeverTogether v = due.house("z0000001 b0040 c5940");
        due.is("touch(0, -5)", v.touch(0, -5), 55);
        due.is("touch(1, -5)", v.touch(1, -5), 54);
        for (int d = 0; d < 7; d++) {
            due.is("day()", v.day(), 0);
        }
        due.is("from 56 to 54, 58 such DAYS", v.meet(0, 1), 406);
    }

    private static void pairs(Due due) {
        NeverTogether none = new NeverTogether();
        due.told("meets(0) without TIMEPIECES", none, none.meets(0), 0, 0);
        NeverTogether x = due.house("z0 c0040 k5940 m5840 c1050 s1140 c3040");
        due.told("meets(0)", x, x.meets(0), 3, 7);
        due.told("meets(1)", x, x.meets(1), 4, 31);
        due.told("meets(2)", x, x.meets(2), 3, 7);
        due.told("meets(20)", x, x.meets(20), 4, 7 + 8 + 32);
        due.told("meets(420)", x, x.meets(420), 3, 7);
    }

    private static void soonest(Due due) {
        NeverTogether none = new NeverTogether();
        due.is("soon() without TIMEPIECES", none.soon(), NONE);
        NeverTogether x = due.house("z0 s0040 c5350 c4950 s5040 k4750");
        due.told("soon(): in 1 DAY 2 and 3, 2 and 4 not", x, x.soon(), 1, 6 * 2 + 3);
        NeverTogether y = due.house("z0 c3050 c5950 s0040 s3140 c3150");
        due.told("soon(): at once 3 and 4", y, y.soon(), 0, 6 * 3 + 4);
        due.is("day()", y.day(), 2);
        due.told("soon(): 0 and 3 ahead of 1 and 2", y, y.soon(), 0, 3);
        NeverTogether z = due.house("z0 c0040 c0140 c0240");
        due.is("row(0, 1)", z.row(0, 1), 1);
        due.told("lay(0, 0, 5)", z, z.lay(0, 0, 5), 1, 0);
        due.told("at(0, 0)", z, z.at(0, 0), 1, 5);
        due.told("soon(): NONE tells nothing", z, z.soon(), NONE, 5);
        NeverTogether one = due.house("z0 c0040 c0040 c0040 c0040 c0040 c0040");
        due.text(one, 1, "z0 c0050");
        due.is("house(1)", one.house(1), 1);
        due.is("soon() of one, where there were six", one.soon(), NONE);
        due.is("sounds() of one, where there were six", one.sounds(1), 1);
        due.told("meets() of one, where there were six", one, one.meets(0), 0, 0);
        due.text(one, 1, "z0 c1040 c1240 c1340");
        due.is("house(1)", one.house(1), 3);
        due.is("soon() of three, where there were six", one.soon(), NONE);
        due.is("sounds() of three, where there were six", one.sounds(420), 3);
        NeverTogether far = due.house("z0000001 b0040 c5940");
        due.told("soon() in 413 DAYS", far, far.soon(), 413, 1);
    }

    private static void oftenness(Due due) {
        NeverTogether x = due.house("z0 s0040 c0050 m5850");
        due.is("on DAY 0", x.often(0, 1, 0), 1);
        due.is("on DAYS 0 .. 59", x.often(0, 1, 59), 1);
        due.is("on DAYS 0 .. 60", x.often(0, 1, 60), 2);
        due.is("on DAYS 0 .. 420", x.often(1, 0, 420), 8);
        due.is("a CHIME on DAYS 0, 1, 2", x.often(0, 2, 58), 3);
        due.is("a CHIME on DAYS 0 .. 420", x.often(0, 2, 420), 7 * 3 + 1);
        due.is("together for ever", x.often(1, 2, 420), 421);
        NeverTogether warm = due.house("z3 s0340 b0040 r0640");
        due.is("b at 3 in 1 DAY", warm.often(0, 1, 0), 0);
        due.is("b at 3 in 1 DAY", warm.often(0, 1, 1), 1);
        due.is("r at 3 in 1 DAY", warm.often(0, 2, 20), 1);
        due.is("b from 0, r from 6 are together in 1, 11, 21 DAYS", warm.often(1, 2, 21), 3);
        due.is("b at 9 in 3 DAYS, not in 2", warm.right(1, 9, 2), 0);
        due.is("b at 9 in 3, 23 DAYS", warm.right(1, 9, 23), 2);
        due.is("r at 0 in 2, 22 DAYS", warm.right(2, 0, 22), 2);
    }

    private static void sounding(Due due) {
        NeverTogether none = new NeverTogether();
        due.is("sounds(0) without TIMEPIECES", none.sounds(0), 0);
        NeverTogether x = due.house("z0 m5840 k5950 s3040");
        due.is("58 59 0, 59 0, 30", x.sounds(0), 4);
        due.is("58 59 0, 0 1, 30", x.sounds(1), 5);
        due.is("58 59 0, 1 2, 30", x.sounds(2), 6);
        due.is("in 420 DAYS as now", x.sounds(420), 4);
    }

    private static void rooms(Due due) {
        NeverTogether none = new NeverTogether();
        due.told("room(0, 9) without TIMEPIECES", none, none.room(0, 9), 0, 60);
        NeverTogether x = due.house("z0 c0040 m0840 c5750");
        due.told("room(0, 1)", x, x.room(0, 1), 1, 55);
        due.told("room(0, 7): 1 .. 7 and 11 .. 56", x, x.room(0, 7), 1, 1 + 40);
        due.told("room(0, 8)", x, x.room(0, 8), 11, 39);
        due.told("room(3, 9): c with c at 0", x, x.room(3, 9), 11, 41);
        due.told("room(4, 2): 58 59 are silent, and 2 .. 7, 11 .. 59", x, x.room(4, 2), 2, 5 + 48);
        NeverTogether y = due.house("z0 m0340 m1140 m1940 m2740 m3540 m4340");
        due.told("room(0, 9): 46 .. 2 is silent", y, y.room(0, 9), 46, 9);
        due.told("room(0, 6)", y, y.room(0, 6), 46, 12);
        NeverTogether z = due.house("z0 m0040 m1040 m2040 m3040 m4040 m5040");
        due.told("room(0, 8): NONE tells 0", z, z.room(0, 8), NONE, 0);
        due.told("room(0, 7)", z, z.room(0, 7), 3, 6);
        NeverTogether wrapped = due.house("z0 c0240 m1240 m2240 m3240 m4240 m5240");
        due.told("room(0, 7): over the end of the ring", wrapped, wrapped.room(0, 7), 3, 3 + 4 + 1);
    }

    private static void rightness(Due due) {
        NeverTogether x = due.house("z0 c0050 s3040 m1060");
        due.is("now", x.right(0, 0, 0), 1);
        due.is("0 .. 59", x.right(0, 0, 59), 1);
        due.is("0 .. 60", x.right(0, 0, 60), 2);
        due.is("0 .. 420", x.right(0, 0, 420), 8);
        due.is("a STOPPED one always", x.right(1, 30, 420), 421);
        due.is("a STOPPED one never", x.right(1, 31, 420), 0);
        due.is("a CHIME is at its first MINUTE alone", x.right(2, 11, 420), 0);
        due.is("a CHIME from 10 by 2", x.right(2, 8, 29), 1);
    }
}
