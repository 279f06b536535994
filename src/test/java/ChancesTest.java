/** Promises 38 to 40, 42, 43 with ordinary inputs: odds, mid, lots, upper, lower. */
public final class ChancesTest {
    public static void main(String[] args) {
        Due due = new Due();
        chances(due);
        means(due);
        lotsDrawn(due);
        lotsOfOne(due);
        due.end("ChancesTest");
    }

    private static void odds(Due due, NeverTogether x, int n, int p, long upper, long lower) {
        due.is("odds(0, 1, " + n + ", " + p + ")", x.odds(0, 1, n, p), 1);
        due.is("its upper()", x.upper(), upper);
        due.is("its lower()", x.lower(), lower);
        due.is("odds(1, 0, " + n + ", " + p + ")", x.odds(1, 0, n, p), 1);
        due.is("its upper()", x.upper(), upper);
        due.is("its lower()", x.lower(), lower);
    }

    private static void chances(Due due) {
        NeverTogether x = due.house("z0 c0040 c0040");
        due.is("upper() before", x.upper(), 0);
        due.is("lower() before", x.lower(), 1);
        odds(due, x, 0, 5, 1, 1);
        odds(due, x, 1, 6, 1, 2);
        odds(due, x, 1, 0, 1, 1);
        odds(due, x, 1, 12, 1, 1);
        odds(due, x, 1, 1, 61, 72);
        NeverTogether y = due.house("z0 c0040 c0140");
        odds(due, y, 0, 5, 0, 1);
        odds(due, y, 1, 6, 1, 4);
        odds(due, y, 1, 12, 0, 1);
        // One more of the first than of the other in 6 DAYS each: C(12, 7), 792 ways of 4096.
        odds(due, y, 6, 6, 99, 512);
        NeverTogether s = due.house("z0 s0040 c5940");
        odds(due, s, 1, 1, 1, 12);
        odds(due, s, 2, 1, 11, 72);
        odds(due, s, 6, 12, 0, 1);
        NeverTogether both = due.house("z0 s0040 s0040");
        odds(due, both, 6, 7, 1, 1);
        NeverTogether far = due.house("z0 s0040 c5440");
        odds(due, far, 6, 1, 1, 2985984);
        odds(due, far, 5, 1, 0, 1);
        NeverTogether rated = due.house("z3 s0640 b5840");
        odds(due, rated, 1, 4, 0, 1);
        odds(due, rated, 2, 4, 1, 9);
        NeverTogether chime = due.house("z0 m0040 c0340");
        odds(due, chime, 1, 6, 1, 4);
        NeverTogether large = due.house("z0 c0040 c0640");
        // 11 to the 6th of 12 to the 12th.
        odds(due, large, 6, 1, 1771561L, 8916100448256L);
    }

    private static void mid(Due due, NeverTogether x, int i, int n, int p, long upper, long lower) {
        due.is("mid(" + i + ", " + n + ", " + p + ")", x.mid(i, n, p), 1);
        due.is("its upper()", x.upper(), upper);
        due.is("its lower()", x.lower(), lower);
    }

    private static void means(Due due) {
        NeverTogether x = due.house("z3 c0000 s0000 r0090");
        mid(due, x, 0, 60, 12, 60, 1);
        mid(due, x, 0, 1, 5, 5, 12);
        mid(due, x, 0, 3, 10, 5, 2);
        mid(due, x, 2, 7, 9, 21, 4);
        mid(due, x, 1, 60, 12, 0, 1);
        mid(due, x, 0, 60, 0, 0, 1);
        mid(due, x, 0, 0, 7, 0, 1);
    }

    /** The same DEEDS done one by one by day() and touch() make the same house. */
    private static void lotsDrawn(Due due) {
        int[] seeds = {1, 2, 3, 77, 48271, 1000000007, 2147483646};
        for (int seed : seeds) {
            NeverTogether byLots = due.house(Due.ALL_KINDS);
            NeverTogether byHand = due.house(Due.ALL_KINDS);
            due.is("touch(2, 3)", byLots.touch(2, 3), 23);
            due.is("touch(2, 3)", byHand.touch(2, 3), 23);
            long lot = seed;
            int pairs = 0;
            int deeds = 1;
            boolean touched = true;
            for (int d = 0; d < 19; d++) {
                lot = 48271L * lot % 2147483647L;
                int i = (int) (lot % 6);
                if (lot / 8 % 2 == 0 && !(touched && i == 2)) {
                    due.isTrue("touch(" + i + ", 1)", byHand.touch(i, 1) >= 0);
                    deeds++;
                }
                pairs = byHand.day();
                touched = false;
                deeds++;
            }
            due.is("lots(19, " + seed + ")", byLots.lots(19, seed), pairs);
            due.is("DEEDS", byLots.count(2), deeds);
            due.is("the DAY", byLots.count(1), 19);
            due.is("the house by lots(19, " + seed + ")", byLots.digest(), byHand.digest());
            due.is("undo(0)", byLots.undo(0), deeds);
        }
        // From 1: 48271 is odd by 8 (6033); 182605794 by 8 is 22825724, even: 182605794 modulo 2 is 0.
        NeverTogether two = due.house("z0 c1040 c2040");
        due.is("lots(1, 1)", two.lots(1, 1), 0);
        due.is("none TOUCHED", two.count(2), 1);
        due.is("undo(0)", two.undo(0), 1);
        due.is("lots(2, 1)", two.lots(2, 1), 0);
        due.is("one TOUCHED", two.count(2), 3);
        due.is("0 by 1", two.minute(0, 0), 11);
        due.is("1 not", two.minute(1, 0), 20);
    }

    private static void lotsOfOne(Due due) {
        NeverTogether one = due.house("z0 c5940");
        due.is("lots(2, 1) of one", one.lots(2, 1), 0);
        due.is("the one, modulo 1", one.minute(0, 0), 0);
    }
}
