/** The edges of promises 28 to 31, and of STAIRS, sentence by sentence: keeping them apart. */
public final class ApartEdgesTest {
    private static final int NONE = Edges.NONE;

    public static void main(String[] args) {
        Edges e = new Edges();
        apartNumbers(e);
        apartOnDays(e);
        touchedByTwoAtMost(e);
        firstOfAsFew(e);
        rowAnew(e);
        apartByNone(e);
        touchedOrNot(e);
        stairsNumbers(e);
        stairsOnDays(e);
        stairsOfFloors(e);
        fewestStairs(e);
        stairsByNone(e);
        doomedNumbers(e);
        doomedOnDays(e);
        doomedByTouches(e);
        firstDoomed(e);
        outNumbers(e);
        outOnDays(e);
        leastOfAsFew(e);
        afterALargerHouse(e);
        e.end("ApartEdgesTest");
    }

    private static void apart(Edges e, String text, int n, int want, int... touches) {
        NeverTogether x = e.due.house(text);
        e.is("apart(" + n + ", 0) of " + text, x.apart(n, 0), want);
        if (want == NONE) {
            e.is("no ROW by apart(" + n + ", 0) of " + text, x.count(6), 0);
        } else {
            e.rowIs("apart(" + n + ", 0) of " + text, x, 0, touches);
        }
    }

    private static void apartNumbers(Edges e) {
        e.sentence(28, "on any of DAYS 0 .. n (0 .. 7) from now .. to a ROW .. BAD; STATE: no TIMEPIECES.");
        e.beginHouse("z0 c0040 c0040 c3040");
        e.range("apart(v, 0)", (x, n) -> x.apart(n, 0), 0, 7, n -> 1);
        e.range("apart(0, v)", (x, r) -> x.apart(0, r), 0, 5, r -> 1);
        e.in("the ROW of apart(0, v)", (x, r) -> Edges.last(x.apart(0, r), x.at(r, 0), x.asked()), r -> -2, 0, 1, 4, 5);
        e.beginNew();
        e.refused("apart(0, 0) of none", x -> x.apart(0, 0), Edges.STATE);
        e.refused("apart(7, 5) of none", x -> x.apart(7, 5), Edges.STATE);
        apart(e, "z0 c0040", 7, 0, 0);
        apart(e, "z0 m0090", 0, 0, 0);
    }

    /** One that gains 1 a DAY comes to a STOPPED one on just one of the DAYS. */
    private static void apartOnDays(Edges e) {
        e.sentence(28, "so that none MEET on any of DAYS 0 .. n");
        for (int day = 0; day <= 8; day++) {
            String text = "z0 s2040 c" + (20 - day) / 10 + (20 - day) % 10 + "50";
            e.beginHouse(text);
            int meet = day;
            for (int n = 0; n <= 7; n++) {
                int days = n;
                e.is("apart(" + n + ", 0) touches none of " + text, x -> x.apart(days, 0) == 0 ? 1 : 0, days < meet ? 1 : 0);
            }
        }
        apart(e, "z0 s2040 c1350", 6, 0, 0, 0);
        apart(e, "z0 s2040 c1350", 7, 1, 0, -2);
        apart(e, "z0 s2040 c1250", 7, 0, 0, 0);
        apart(e, "z0 s2040 c2050", 0, 1, -2, 0);
        // By HEAT of DAY 6 alone the BRASS one is there in 7 DAYS, not in 6.
        apart(e, "z0000003 s2040 b1740", 6, 0, 0, 0);
        apart(e, "z0000003 s2040 b1740", 7, 1, -2, 0);
    }

    private static void touchedByTwoAtMost(Edges e) {
        e.sentence(28, "each by -2 .. 2");
        apart(e, "z0 c3040 c3040 c3040 c3040 c3040", 0, 4, -2, -1, 0, 1, 2);
        apart(e, "z0 c3040 c3040 c3040 c3040 c3040 c3040", 0, NONE);
        apart(e, "z0 k3040 k3040 k3040", 0, 2, -2, 0, 2);
        apart(e, "z0 k3040 k3040 k3040 k3040", 0, NONE);
        apart(e, "z0 m3040 m3040", 0, 2, -2, 1);
        apart(e, "z0 m3040 m3040 m3040", 0, NONE);
        apart(e, "z0 m3040 m3140", 0, 1, -2, 0);
        apart(e, "z0 m3140 m3040", 0, 1, 0, -2);
        apart(e, "z0 m3040 m3340", 0, 0, 0, 0);
        apart(e, "z0 m3040 m3240", 0, 1, -2, 0);
        // At both ends of the ring.
        apart(e, "z0 m5940 m5940", 0, 2, -2, 1);
        apart(e, "z0 c0040 c0040 c0040 c0040 c0040", 7, 4, -2, -1, 0, 1, 2);
    }

    private static void firstOfAsFew(Edges e) {
        e.sentence(28, "(.. 0: not; of as few the first such row, less ahead of more)");
        apart(e, "z0 c0040 c0040", 0, 1, -2, 0);
        apart(e, "z0 c0040 c0040 c0040", 0, 2, -2, -1, 0);
        apart(e, "z0 c1040 c0040 c0040", 0, 1, 0, -2, 0);
        apart(e, "z0 c0040 c1040 c0040", 0, 1, -2, 0, 0);
        // By -2 the first one would be where another one is.
        apart(e, "z0 c0040 c0040 c5840", 0, 1, -1, 0, 0);
        apart(e, "z0 c0040 c0040 c5840 c5940", 0, 1, 0, 1, 0, 0);
    }

    private static void rowAnew(Edges e) {
        e.sentence(28, "how much each is TOUCHED comes to a ROW (anew; ..)");
        NeverTogether x = e.due.house("z0 c0040 c0040");
        x.row(3, 40);
        for (int i = 0; i < 40; i++) {
            x.lay(3, i, 77);
        }
        e.is("apart(0, 3) over 40 ints", x.apart(0, 3), 1);
        e.rowIs("apart(0, 3) over 40 ints", x, 3, -2, 0);
        x.row(3, 0);
        e.is("apart(0, 3) over none", x.apart(0, 3), 1);
        e.rowIs("apart(0, 3) over none", x, 3, -2, 0);
        x.tear(3);
        e.is("apart(0, 3) over a missing one", x.apart(0, 3), 1);
        e.rowIs("apart(0, 3) over a missing one", x, 3, -2, 0);
        e.is("one ROW", x.count(6), 1);
        e.is("nothing is done by it", x.count(2) + x.minute(0, 0), 0);
    }

    private static void apartByNone(Edges e) {
        e.sentence(28, "NONE: by none.");
        e.begin(() -> {
            NeverTogether x = e.due.house("z0 m0040 m0040 m0040");
            e.due.row(x, 2, 7, 8);
            return x;
        });
        e.refused("apart(0, 2) changes nothing", x -> x.apart(0, 2), NONE);
        e.refused("apart(7, 3) changes nothing", x -> x.apart(7, 3), NONE);
        // In 8 DAYS one goes through 8 MINUTES: it is kept apart by 4, both going 2 aside.
        apart(e, "z0 s2040 c1550", 7, 2, 1, -2);
        apart(e, "z0 s2040 c1650", 7, 2, 2, -2);
        apart(e, "z0 s2040 c1750", 7, 2, -2, 2);
        apart(e, "z0 s2040 c1650 c3040 c3040", 7, 3, 2, -2, -2, 0);
        // A CUCKOO goes through 9.
        apart(e, "z0 s2040 k1650", 6, 2, 2, -2);
        apart(e, "z0 s2040 k1650", 7, NONE);
    }

    private static void touchedOrNot(Edges e) {
        e.sentence(28, "(Whether they were TOUCHED this DAY does not matter.)");
        NeverTogether x = e.due.house("z0 c0040 c0140");
        x.touch(0, 1);
        e.is("apart(0, 0), the first TOUCHED", x.apart(0, 0), 1);
        e.rowIs("apart(0, 0), the first TOUCHED", x, 0, -2, 0);
        x.touch(1, 1);
        e.is("apart(0, 0), both TOUCHED", x.apart(0, 0), 0);
        NeverTogether y = e.due.house("z0 c0042 c0141");
        y.touch(1, -1);
        e.told("stairs(0), the one TOUCHED", y, y.stairs(0), 2, 2);
    }

    private static void stairs(Edges e, String text, int n, int want, int who) {
        e.beginHouse(text);
        if (want == NONE) {
            e.refused("stairs(" + n + ") of " + text, x -> x.stairs(n), NONE);
        } else {
            e.tells("stairs(" + n + ") of " + text, x -> x.stairs(n), want, who);
        }
    }

    private static void stairsNumbers(Edges e) {
        e.sentence(29, "The fewest STAIRS by which that can be .. BAD; STATE.");
        e.beginHouse("z0 c0041 c0041 c3040");
        e.range("stairs(v)", (x, n) -> x.stairs(n), 0, 7, n -> 2);
        e.beginNew();
        e.refused("stairs(0) of none", x -> x.stairs(0), Edges.STATE);
        e.refused("stairs(7) of none", x -> x.stairs(7), Edges.STATE);
        stairs(e, "z0 c0043", 7, 0, 0);
    }

    private static void stairsOnDays(Edges e) {
        e.sentence(29, "by which that can be (none MEET on any of DAYS 0 .. n)");
        stairs(e, "z0 s2043 c1352", 6, 0, 0);
        stairs(e, "z0 s2043 c1352", 7, 4, 2);
        stairs(e, "z0 s2043 c1252", 7, 0, 0);
    }

    private static void stairsOfFloors(Edges e) {
        e.sentence(0, "STAIRS of a set: twice the highest FLOOR of these (none: 0).");
        for (int floor = 0; floor <= 3; floor++) {
            stairs(e, "z0 c004" + floor + " c004" + floor, 0, 2 * floor, 1);
            stairs(e, "z0 c004" + floor + " c0143", 0, 0, 0);
            stairs(e, "z0 c004" + floor + " c0040 c0040", 0, 0, floor == 0 ? 3 : 6);
            stairs(e, "z0 c0043 c004" + floor + " c0040", 0, 2 * floor, floor == 3 ? 3 : 6);
        }
    }

    private static void fewestStairs(Edges e) {
        e.sentence(29, "which are TOUCHED by asked() (bits; of as few STAIRS the fewest, of these the least number)");
        stairs(e, "z0 c0041 c0040", 0, 0, 2);
        stairs(e, "z0 c0040 c0041", 0, 0, 1);
        stairs(e, "z0 c0043 c0042", 0, 4, 2);
        // By one TOUCH of the CHIME upstairs, or by two of those below.
        stairs(e, "z0 m0041 c0040 c0140 c3040", 0, 0, 6);
        stairs(e, "z0 m0040 c0040 c0140 c3040", 0, 0, 1);
        stairs(e, "z0 c0042 c0042 c0042", 0, 4, 3);
        stairs(e, "z0 c3043 c0042 c3043 c0042", 0, 6, 3);
        stairs(e, "z0 c3043 c0042 c0042 c3043", 0, 6, 3);
        stairs(e, "z0 c1040 c2040 c3040 c0043 c4040 c0043", 0, 6, 8);
    }

    private static void stairsByNone(Edges e) {
        e.sentence(29, "NONE: by none.");
        stairs(e, "z0 m0040 m0040 m0040", 0, NONE, 0);
        stairs(e, "z0 c0040 c0040 c0040 c0040 c0040 c0040", 0, NONE, 0);
        stairs(e, "z0 c0040 c0040 c0040 c0040 c0040", 0, 0, 15);
        e.begin(() -> {
            NeverTogether x = e.due.house("z0 m0040 m0040 m0040");
            x.piece(0, 4);
            return x;
        });
        e.tells("stairs(0) tells nothing", x -> x.stairs(0), NONE, 3);
    }

    private static void doomedNumbers(Edges e) {
        e.sentence(30, "DAYS 0 .. n (0 .. 60) .. BAD.");
        e.beginHouse("z0 c0040 c0040");
        e.range("doomed(v)", (x, n) -> x.doomed(n), 0, 60, n -> 0);
        e.beginNew();
        e.range("doomed(v) of none", (x, n) -> x.doomed(n), 0, 60, n -> 0);
        e.tells("doomed(60) of none", x -> x.doomed(60), 0, NONE);
        e.beginHouse("z0 c0040");
        e.tells("doomed(60) of one", x -> x.doomed(60), 0, NONE);
    }

    private static void doomed(Edges e, String text, int n, int want, int first) {
        e.beginHouse(text);
        e.tells("doomed(" + n + ") of " + text, x -> x.doomed(n), want, first);
    }

    /** By TOUCHES of both one is up to 4 nearer or further off: nine MINUTES are to be gone through, one a DAY. */
    private static void doomedOnDays(Edges e) {
        e.sentence(30, "that no TOUCHES .. keep apart on all of DAYS 0 .. n");
        doomed(e, "z0 s0040 c5650", 7, 0, NONE);
        doomed(e, "z0 s0040 c5650", 8, 1, 1);
        doomed(e, "z0 s0040 c5650", 9, 1, 1);
        doomed(e, "z0 s0040 c0450", 58, 0, NONE);
        doomed(e, "z0 s0040 c0450", 59, 1, 1);
        // By HEAT 1 every other DAY the ninth is reached on DAY 60.
        doomed(e, "z01 s0040 b3440", 59, 0, NONE);
        doomed(e, "z01 s0040 b3440", 60, 1, 1);
        doomed(e, "z01 s0040 b3340", 60, 0, NONE);
    }

    private static void doomedByTouches(Edges e) {
        e.sentence(30, "no TOUCHES of both by -2 .. 2");
        doomed(e, "z0 m0040 m0040", 60, 0, NONE);
        // From 57 by 4 it has gone by, and comes round in 59 DAYS.
        doomed(e, "z0 s0040 c5750", 58, 0, NONE);
        doomed(e, "z0 s0040 c5750", 59, 1, 1);
        doomed(e, "z0 s0040 c5550", 8, 0, NONE);
        doomed(e, "z0 s0040 c5550", 9, 1, 1);
        // A CHIME is there two DAYS ahead.
        doomed(e, "z0 s0040 m5650", 5, 0, NONE);
        doomed(e, "z0 s0040 m5650", 6, 1, 1);
        doomed(e, "z0 s0040 m5450", 7, 0, NONE);
        doomed(e, "z0 s0040 m5450", 8, 1, 1);
    }

    private static void firstDoomed(Edges e) {
        e.sentence(30, "Pairs (how many) ..; the first by asked() (as soon() tells; NONE)");
        doomed(e, "z0 s3040 s0040 c5650", 8, 1, 8);
        doomed(e, "z0 c5650 s3040 s0040", 8, 1, 2);
        doomed(e, "z0 c5650 s0040 s0040", 8, 2, 1);
        doomed(e, "z0 s3040 s3040 s3040 s3040 s0040 c5650", 8, 1, 29);
        doomed(e, "z0 s0040 s0040 s0040 s0040 s0040 c5650", 8, 5, 5);
        doomed(e, "z0 s0040 s0040 s0040 c5650 c5650 c5650", 8, 9, 3);
    }

    private static void outNumbers(Edges e) {
        e.sentence(31, "DAYS 0 .. n (0 .. 60) from now .. BAD.");
        e.beginHouse("z0 c0040 c0040");
        e.range("out(v)", (x, n) -> x.out(n), 0, 60, n -> 1);
        e.beginNew();
        e.range("out(v) of none", (x, n) -> x.out(n), 0, 60, n -> 0);
        e.tells("out(60) of none", x -> x.out(60), 0, 0);
        e.beginHouse("z0 c0040");
        e.tells("out(60) of one", x -> x.out(60), 0, 0);
    }

    private static void out(Edges e, String text, int n, int want, int who) {
        e.beginHouse(text);
        e.tells("out(" + n + ") of " + text, x -> x.out(n), want, who);
    }

    private static void outOnDays(Edges e) {
        e.sentence(31, "so that no two of the others MEET on any of DAYS 0 .. n");
        out(e, "z0 s0040 c0050", 0, 1, 1);
        out(e, "z0 s0040 c5950", 0, 0, 0);
        out(e, "z0 s0040 c5950", 1, 1, 1);
        out(e, "z0 s0040 c0150", 58, 0, 0);
        out(e, "z0 s0040 c0150", 59, 1, 1);
        out(e, "z01 s3040 b0040", 59, 0, 0);
        out(e, "z01 s3040 b0040", 60, 1, 1);
        out(e, "z01 s3140 b0040", 60, 0, 0);
    }

    private static void leastOfAsFew(Edges e) {
        e.sentence(31, "The fewest ..; which by asked() (bits; the least number of as few)");
        out(e, "z0 c0040 c0040", 0, 1, 1);
        out(e, "z0 c1040 c0040 c0040", 0, 1, 2);
        out(e, "z0 c0040 c0040 c0040", 0, 2, 3);
        out(e, "z0 c0040 m0040 c0140", 0, 1, 2);
        out(e, "z0 c0040 c0140 m0040", 0, 1, 4);
        out(e, "z0 c1040 c2040 c3040 c4040 c0040 c0040", 0, 1, 16);
        out(e, "z0 c0040 c0040 c0040 c0040 c0040 c0040", 0, 5, 31);
        out(e, "z0 c0040 c0040 c2040 c2040 c4040 c4040", 0, 3, 1 + 4 + 16);
        out(e, "z0 c0040 c0140 c0240 c0340 c0440 c0540", 0, 0, 0);
    }

    /** Nothing of six that were there is left, when there are fewer. */
    private static void afterALargerHouse(Edges e) {
        e.sentence(11, "A HOUSE by a TEXT (anew ..)");
        e.begin(() -> threeAfterSix(e, "z0 c0040 c0240 c5640"));
        e.is("soon(), one being where the fourth was", x -> x.soon(), NONE);
        e.tells("meets(0)", x -> x.meets(0), 0, 0);
        e.is("count(3)", x -> x.count(3), 0);
        e.is("cat(0)", x -> x.cat(0), 1);
        e.is("first(1): 0 by -1", x -> x.first(1), 1);
        e.begin(() -> threeAfterSix(e, "z0 c0040 c0240 c1040"));
        e.is("sounds(0), none being where the fourth was", x -> x.sounds(0), 3);
        e.tells("room(0, 9)", x -> x.room(0, 9), 11, 41);
        e.tells("doomed(60)", x -> x.doomed(60), 0, NONE);
        e.tells("out(60)", x -> x.out(60), 0, 0);
        e.is("apart(7, 0)", x -> x.apart(7, 0), 0);
        e.tells("stairs(7)", x -> x.stairs(7), 0, 0);
    }

    /** Six have been looked at in every way, ahead of three. */
    private static NeverTogether threeAfterSix(Edges e, String three) {
        NeverTogether x = e.due.house("z0 s0040 s0040 s0040 c5650 c5650 c5650");
        e.told("meets(0) of six", x, x.meets(0), 6, 63);
        e.is("cat(0) of six", x.cat(0), 0);
        e.is("first(1) of six", x.first(1), NONE);
        e.is("apart(7, 0) of six", x.apart(7, 0), NONE);
        e.told("doomed(8) of six", x, x.doomed(8), 9, 3);
        e.due.text(x, 1, three);
        e.is("house(1)", x.house(1), 3);
        return x;
    }
}
