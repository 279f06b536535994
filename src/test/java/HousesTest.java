/** Promises 8 to 14 with ordinary inputs: text, put, house, piece, mark, heat. */
public final class HousesTest {
    public static void main(String[] args) {
        Due due = new Due();
        texts(due);
        houses(due);
        pieces(due);
        marks(due);
        stoppedMarks(due);
        heats(due);
        due.end("HousesTest");
    }

    private static void texts(Due due) {
        NeverTogether x = new NeverTogether();
        due.is("text(3, 60)", x.text(3, 60), 60);
        due.is("text(0, 0)", x.text(0, 0), 0);
        due.is("count(7)", x.count(7), 2);
        due.is("put(3, 59, 65)", x.put(3, 59, 65), 1032);
        due.is("put(3, 59, 200)", x.put(3, 59, 200), 1065);
        due.is("put(3, 59, -129): 200 was cut to -56", x.put(3, 59, -129), 944);
        due.is("put(3, 59, 128): -129 was cut to 127", x.put(3, 59, 128), 1127);
        due.is("put(3, 59, 512): 128 was cut to -128", x.put(3, 59, 512), 872);
        due.is("put(3, 59, 1): 512 was cut to 0", x.put(3, 59, 1), 1000);
        due.is("text(3, 60) anew", x.text(3, 60), 60);
        due.is("put(3, 59, 1): blank again", x.put(3, 59, 1), 1032);
    }

    private static void houses(Due due) {
        NeverTogether x = new NeverTogether();
        due.text(x, 0, Due.ALL_KINDS);
        due.is("house(0)", x.house(0), 6);
        due.is("touch(1, 5)", x.touch(1, 5), 15);
        due.is("day()", x.day(), 0);
        due.is("keep(1)", x.keep(1), 2);
        due.is("keep(0)", x.keep(0), 2);
        due.is("keep(2)", x.keep(2), 2);
        due.is("count(1)", x.count(1), 1);
        due.is("house(0) anew", x.house(0), 6);
        due.is("DAY anew", x.count(1), 0);
        due.is("DEEDS anew", x.count(2), 0);
        due.is("kept HOUSES go", x.count(8), 0);
        due.told("MINUTE anew", x, x.piece(1, 1), 1, 10);
        due.told("not TOUCHED", x, x.piece(1, 5), 1, 0);
        due.text(x, 0, "z0m5793");
        due.is("the TEXT may change: TIMEPIECES", x.count(0), 6);
        due.is("house(0) with one", x.house(0), 1);
        due.is("count(0)", x.count(0), 1);
    }

    private static void pieceIs(Due due, NeverTogether x, int i, int... parts) {
        for (int what = 0; what < parts.length; what++) {
            due.told("piece(" + i + ", " + what + ")", x, x.piece(i, what), 1, parts[what]);
        }
    }

    private static void pieces(Due due) {
        NeverTogether x = due.house("z12 c0000k5993b3042s1951m0870r2263");
        pieceIs(due, x, 0, 0, 0, -4, 0, 1, 0);
        pieceIs(due, x, 1, 1, 59, 5, 3, 2, 0);
        pieceIs(due, x, 2, 2, 30, 0, 2, 1, 0);
        pieceIs(due, x, 3, 3, 19, 1, 1, 1, 0);
        pieceIs(due, x, 4, 4, 8, 3, 0, 3, 0);
        pieceIs(due, x, 5, 5, 22, 2, 3, 1, 0);
        due.is("touch(3, -2)", x.touch(3, -2), 17);
        pieceIs(due, x, 3, 3, 17, 1, 1, 1, 1);
        pieceIs(due, x, 4, 4, 8, 3, 0, 3, 0);
        due.is("day()", x.day(), 0);
        pieceIs(due, x, 0, 0, 56, -4, 0, 1, 0);
        pieceIs(due, x, 1, 1, 4, 5, 3, 2, 0);
        pieceIs(due, x, 2, 2, 31, 0, 2, 1, 0);
        pieceIs(due, x, 3, 3, 17, 1, 1, 1, 0);
        pieceIs(due, x, 4, 4, 11, 3, 0, 3, 0);
        pieceIs(due, x, 5, 5, 23, 2, 3, 1, 0);
    }

    private static void marks(Due due) {
        NeverTogether x = due.house("z03 k5940 m5840 b1042 r2070 c0040 r3240");
        due.is("CUCKOO at 59: last MINUTE", x.mark(0, 1), 0);
        due.is("CHIME at 58: last MINUTE", x.mark(1, 1), 0);
        due.is("CHIME MEETS k (59, 0) and c (0)", x.mark(1, 4), 2);
        due.is("BRASS gains 0 by HEAT 0", x.mark(2, 2), 0);
        due.is("REGULATOR gains 3 by HEAT 0", x.mark(3, 2), 3);
        due.is("REGULATOR of RATE 3: idle by HEAT 3", x.mark(3, 5), 3);
        due.is("REGULATOR of RATE 0: idle by HEAT 0", x.mark(5, 5), 4);
        due.is("day()", x.day(), 3);
        due.is("BRASS gains 3 by HEAT 3", x.mark(2, 2), 3);
        due.is("REGULATOR gains 0 by HEAT 3", x.mark(3, 2), 0);
        due.is("REGULATOR of RATE 0 loses 3 by HEAT 3", x.mark(5, 2), -3);
        due.is("REGULATOR of RATE 3 from DAY 1 on", x.mark(3, 5), 4);
        due.is("REGULATOR of RATE 0 from DAY 1 on", x.mark(5, 5), 3);
        NeverTogether y = due.house("z3 m1090 k1290 b1240 c1340 m1340 r0940");
        due.is("last MINUTE of a CHIME now, not on the next DAY", y.mark(0, 1), 12);
        due.is("last MINUTE of a CUCKOO now", y.mark(1, 1), 13);
        due.is("the CHIME at 10 MEETS k, b now", y.mark(0, 4), 2);
        due.is("the CHIME at 13 MEETS k, c now", y.mark(4, 4), 2);
    }

    /** From 0 by 1 each DAY one comes to 59 just within 60 DAYS (the last being 59), from 59 by 1 at once. */
    private static void stoppedMarks(Due due) {
        NeverTogether x = due.house("z0 s5990 c0050 c0060 s5940 k5850 m5740");
        due.is("c from 0 by 1, s at 59, k at 58 by 1", x.mark(0, 3), 3);
        due.is("the same of the other one", x.mark(3, 3), 3);
        NeverTogether y = due.house("z1 s0000 b0030 r0050 c0130");
        due.is("RATES -1, 1 with HEAT 1 stay at 0; c comes from 1 by -1", y.mark(0, 3), 3);
        NeverTogether z = due.house("z0 s2000 c2050 c2150");
        due.is("c at 20 now; c from 21 is at 20 on DAY 59", z.mark(0, 3), 2);
        due.is("day()", z.day(), 0);
        due.is("both on a later DAY", z.mark(0, 3), 2);
        NeverTogether late = due.house("z01 s3040 b0040");
        due.is("by 1 every other DAY b is there on DAY 60, too late", late.mark(0, 3), 0);
        due.is("day()", late.day(), 0);
        due.is("a DAY later in time", late.mark(0, 3), 1);
        NeverTogether w = due.house("z0 s0000 c0140 b0160");
        due.is("c stays at 1; b is odd for ever", w.mark(0, 3), 0);
    }

    private static void heats(Due due) {
        NeverTogether y = due.house("z0123321 c0000");
        int[] heats = {0, 1, 2, 3, 3, 2, 1};
        for (int d = 0; d <= 21; d++) {
            due.is("heat(" + d + ")", y.heat(d), heats[d % 7]);
        }
        due.is("heat(999)", y.heat(999), heats[999 % 7]);
        due.is("day()", y.day(), 0);
        due.is("heat(0) on another DAY", y.heat(0), 0);
    }
}
