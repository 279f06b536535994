/** The edges of promises 38 to 40, 42 and 43, sentence by sentence: draughts, lots. */
public final class ChanceEdgesTest {
    private static final String SIX = "z0 c0040c1040c2040c3040c4040c5040";

    public static void main(String[] args) {
        Edges e = new Edges();
        oddsNumbers(e);
        oddsByDraughts(e);
        oddsOnDays(e);
        oddsOfStoppedOnes(e);
        oddsInLowestTerms(e);
        midNumbers(e);
        midInLowestTerms(e);
        lotsNumbers(e);
        lotsWithoutPieces(e);
        lotsFull(e);
        lotsTouch(e);
        pairsAtTheEnd(e);
        chancesBefore(e);
        chancesStay(e);
        e.end("ChanceEdgesTest");
    }

    private static void oddsNumbers(Edges e) {
        e.sentence(38, "n (0 .. 6) DAYS from now by DRAUGHTS of p (0 .. 12) ..: 1. BAD: also the same.");
        e.beginHouse(SIX);
        e.range("odds(0, 1, v, 5)", (x, n) -> x.odds(0, 1, n, 5), 0, 6, n -> 1);
        e.range("odds(0, 1, 3, v)", (x, p) -> x.odds(0, 1, 3, p), 0, 12, p -> 1);
        e.in("odds(v, 2, 3, 5)", (x, i) -> x.odds(i, 2, 3, 5), i -> 1, 0, 1, 3, 4, 5);
        e.bad("odds(v, 2, 3, 5)", (x, i) -> x.odds(i, 2, 3, 5), 2, -1, 6, Edges.LEAST, Edges.MOST);
        e.in("odds(2, v, 3, 5)", (x, j) -> x.odds(2, j, 3, 5), j -> 1, 0, 1, 3, 4, 5);
        e.bad("odds(2, v, 3, 5)", (x, j) -> x.odds(2, j, 3, 5), 2, -1, 6, Edges.LEAST, Edges.MOST);
        e.bad("odds(v, v, 0, 0)", (x, i) -> x.odds(i, i, 0, 0), -1, 0, 5, 6);
        e.beginHouse("z0 c0040");
        e.bad("odds(0, v, 0, 0) of one", (x, j) -> x.odds(0, j, 0, 0), -1, 0, 1);
        e.beginNew();
        e.bad("odds(0, v, 0, 0) of none", (x, j) -> x.odds(0, j, 0, 0), -1, 0, 1);
    }

    private static long shared(long a, long b) {
        return b == 0 ? a : shared(b, a % b);
    }

    private static void lowest(Edges e, String call, java.util.function.ToIntFunction<NeverTogether> of, long upper, long lower) {
        long shared = shared(upper, lower);
        e.tellsChances(call, of, upper / shared, lower / shared);
    }

    /** One that is 1 behind a STOPPED one is there in a DAY by a DRAUGHT. */
    private static void oddsByDraughts(Edges e) {
        e.sentence(38, "by DRAUGHTS of p (0 .. 12), of each by itself");
        for (int p = 0; p <= 12; p++) {
            int of12 = p;
            e.beginHouse("z0 s0040 c5940");
            lowest(e, "odds(0, 1, 1, " + p + ")", x -> x.odds(0, 1, 1, of12), p, 12);
            lowest(e, "odds(1, 0, 1, " + p + ")", x -> x.odds(1, 0, 1, of12), p, 12);
            e.beginHouse("z0 s0040 c0040");
            lowest(e, "odds(0, 1, 1, " + p + "), together now", x -> x.odds(0, 1, 1, of12), 12 - p, 12);
            e.beginHouse("z0 c0040 c0040");
            lowest(e, "odds(0, 1, 1, " + p + "), both or neither", x -> x.odds(0, 1, 1, of12), p * p + (12 - p) * (12 - p), 144);
            e.beginHouse("z0 c0040 c5940");
            lowest(e, "odds(0, 1, 1, " + p + "), the other one alone", x -> x.odds(0, 1, 1, of12), p * (12 - p), 144);
        }
    }

    private static void oddsOnDays(Edges e) {
        e.sentence(38, "n (0 .. 6) DAYS from now");
        long power = 1;
        for (int n = 0; n <= 6; n++) {
            int days = n;
            for (int behind = 0; behind <= 7; behind++) {
                int minute = Edges.ring(60 - behind);
                e.beginHouse("z0 s0040 c" + minute / 10 + minute % 10 + "40");
                lowest(e, "odds(0, 1, " + n + ", 12), " + behind + " behind", x -> x.odds(0, 1, days, 12), behind == n ? 1 : 0, 1);
                lowest(e, "odds(0, 1, " + n + ", 0), " + behind + " behind", x -> x.odds(0, 1, days, 0), behind == 0 ? 1 : 0, 1);
            }
            int minute = Edges.ring(60 - n);
            e.beginHouse("z0 s0040 c" + minute / 10 + minute % 10 + "40");
            lowest(e, "odds(0, 1, " + n + ", 1), a DRAUGHT each DAY", x -> x.odds(0, 1, days, 1), 1, power);
            power *= 12;
        }
        // The HEAT of DAY 5 alone: in 6 DAYS it has come, in 5 not.
        e.beginHouse("z0000030 s0340 b0040");
        lowest(e, "odds(0, 1, 5, 0)", x -> x.odds(0, 1, 5, 0), 0, 1);
        lowest(e, "odds(0, 1, 6, 0)", x -> x.odds(0, 1, 6, 0), 1, 1);
        e.beginHouse("z0 m5640 c0040");
        lowest(e, "odds(0, 1, 2, 6): two more of the CHIME, or three or four", x -> x.odds(0, 1, 2, 6), 1, 16);
    }

    private static void oddsOfStoppedOnes(Edges e) {
        e.sentence(0, "a TIMEPIECE (not STOPPED) GAINS 1 more");
        e.beginHouse("z0 s0040 s0040 s5940");
        for (int n = 0; n <= 6; n += 6) {
            int days = n;
            lowest(e, "odds of two that stand together", x -> x.odds(0, 1, days, 12), 1, 1);
            lowest(e, "odds of two that stand side by side", x -> x.odds(0, 2, days, 6), 0, 1);
            lowest(e, "odds of two that stand side by side", x -> x.odds(2, 0, days, 6), 0, 1);
        }
    }

    private static void oddsInLowestTerms(Edges e) {
        e.sentence(0, "Chances are told .. in lowest terms, the lower number above 0 (0 by 1).");
        e.beginHouse("z0 c0040 c0640");
        e.tellsChances("11 to the 6th of 12 to the 12th", x -> x.odds(0, 1, 6, 1), 1771561L, 8916100448256L);
        e.tellsChances("the other way round as many", x -> x.odds(0, 1, 6, 11), 1771561L, 8916100448256L);
        e.tellsChances("1 of 4096", x -> x.odds(0, 1, 6, 6), 1, 4096);
        e.tellsChances("none: 0 by 1", x -> x.odds(0, 1, 5, 6), 0, 1);
        e.beginHouse("z0 c0040 c0040");
        e.tellsChances("all: 1 by 1", x -> x.odds(0, 1, 6, 12), 1, 1);
        e.tellsChances("924 of 4096", x -> x.odds(0, 1, 6, 6), 231, 1024);
    }

    private static void midNumbers(Edges e) {
        e.sentence(39, "by DRAUGHTS of p in n (0 .. 60) DAYS ..: 1. BAD.");
        e.beginHouse(SIX);
        e.range("mid(0, v, 5)", (x, n) -> x.mid(0, n, 5), 0, 60, n -> 1);
        e.range("mid(0, 3, v)", (x, p) -> x.mid(0, 3, p), 0, 12, p -> 1);
        e.range("mid(v, 3, 5)", (x, i) -> x.mid(i, 3, 5), 0, 5, i -> 1);
        e.beginHouse("z0 c0040");
        e.range("mid(v, 3, 5) of one", (x, i) -> x.mid(i, 3, 5), 0, 0, i -> 1);
        e.beginNew();
        e.bad("mid(v, 0, 0) of none", (x, i) -> x.mid(i, 0, 0), -1, 0, 1);
    }

    private static void midInLowestTerms(Edges e) {
        e.sentence(39, "The mean of how many MINUTES more a TIMEPIECE has GAINED");
        for (int n : new int[] {0, 1, 2, 59, 60}) {
            for (int p = 0; p <= 12; p++) {
                int of12 = p;
                for (char letter : "ckbmr".toCharArray()) {
                    e.beginHouse("z3 " + letter + "0090");
                    lowest(e, "mid(0, " + n + ", " + p + ") of " + letter, x -> x.mid(0, n, of12), n * p, 12);
                }
                e.beginHouse("z3 s0090");
                e.tellsChances("mid(0, " + n + ", " + p + ") of a STOPPED one", x -> x.mid(0, n, of12), 0, 1);
            }
        }
    }

    private static void lotsNumbers(Edges e) {
        e.sentence(40, "n (1 .. 20) DAYS pass truly by LOTS of a seed (1 .. 2147483646) .. BAD");
        e.beginHouse("z0 c0040");
        e.range("lots(v, 77)", (x, n) -> x.lots(n, 77), 1, 20, n -> 0);
        e.in("the DAY behind lots(v, 77)", (x, n) -> Edges.last(x.lots(n, 77), x.count(1)), n -> n, 1, 2, 19, 20);
        e.in("lots(3, v)", (x, seed) -> x.lots(3, seed), seed -> 0, 1, 2, 2147483645, 2147483646);
        e.bad("lots(3, v)", (x, seed) -> x.lots(3, seed), 0, -1, 2147483647, Edges.LEAST);
    }

    private static void lotsWithoutPieces(Edges e) {
        e.sentence(40, "STATE: no TIMEPIECES");
        e.beginNew();
        e.refused("lots(1, 1)", x -> x.lots(1, 1), Edges.STATE);
        e.refused("lots(20, 2147483646)", x -> x.lots(20, 2147483646), Edges.STATE);
    }

    private static void lotsFull(Edges e) {
        e.sentence(40, "FULL: with twice n more there would be more than 40 DEEDS.");
        for (int deeds = 0; deeds <= 40; deeds++) {
            e.beginAfter("z0 c0040", deeds);
            int done = deeds;
            for (int n : new int[] {1, (40 - deeds) / 2, (40 - deeds) / 2 + 1, 20}) {
                if (n < 1 || n > 20) {
                    continue;
                }
                if (deeds + 2 * n <= 40) {
                    e.is("the DAY behind lots(" + n + ", 1) behind " + deeds, x -> Edges.last(x.lots(n, 1), x.count(1)), done + n);
                } else {
                    e.refused("lots(" + n + ", 1) behind " + deeds, x -> x.lots(n, 1), Edges.FULL);
                }
            }
        }
    }

    private static void lots(Edges e, String text, int n, int seed, int deeds, int... minutes) {
        NeverTogether x = e.due.house(text);
        x.lots(n, seed);
        e.is("DEEDS by lots(" + n + ", " + seed + ") of " + text, x.count(2), deeds);
        e.is("the DAY", x.count(1), n);
        for (int i = 0; i < minutes.length; i++) {
            e.is("MINUTE of " + i + " by lots(" + n + ", " + seed + ") of " + text, x.minute(i, 0), minutes[i]);
        }
    }

    /**
     * From 1: 48271 (odd by 8), 182605794 (even; 0 modulo 2, 3, 6), 1291394886 (even; 0 modulo 2, 3, 6), 1914720637 (odd).
     * From 2147483645: 2147387105 (even; 1 modulo 2, 5 modulo 6), 1782272059 (odd), 1712177522 (even; 2 modulo 6).
     * From 2147483646: 2147435376 (even; 0 modulo 2), 1964877853 (odd), 856088761 (odd), 232763010 (even; 0).
     */
    private static void lotsTouch(Edges e) {
        lots(e, "z0 c0040", 1, 1, 1, 0);
        lots(e, "z0 c0040", 2, 1, 3, 1);
        lots(e, "z0 c0040", 3, 1, 5, 2);
        lots(e, "z0 c0040", 4, 1, 6, 2);
        lots(e, "z0 c5940 c3040", 1, 2147483646, 2, 0, 30);
        lots(e, "z0 c5940 c3040", 4, 2147483646, 6, 1, 30);
        lots(e, "z0 c0040 c3040", 1, 2147483645, 2, 0, 31);
        lots(e, SIX, 1, 2147483645, 2, 0, 10, 20, 30, 40, 51);
        lots(e, SIX, 3, 2147483645, 5, 0, 10, 21, 30, 40, 51);
        lots(e, "z3 b0040 s3040", 4, 1, 6, 14, 30);
        e.sentence(40, "is TOUCHED by 1, if it was not this DAY");
        e.beginHouse("z0 c0040 c3040");
        e.is("it was TOUCHED ahead", x -> Edges.last(x.touch(0, 5), x.lots(1, 2147483646), x.minute(0, 0)), 5);
        e.is("and is no DEED", x -> Edges.last(x.touch(0, 5), x.lots(1, 2147483646), x.count(2)), 2);
        e.is("the other one was", x -> Edges.last(x.touch(1, 5), x.lots(1, 2147483646), x.minute(0, 0)), 1);
        e.is("and it is a DEED", x -> Edges.last(x.touch(1, 5), x.lots(1, 2147483646), x.count(2)), 3);
        e.is("it was on the DAY before", x -> Edges.last(x.touch(0, 5), x.day(), x.lots(1, 2147483646), x.minute(0, 0)), 6);
        e.is("undone from the DAY on", x -> Edges.last(x.lots(1, 2147483646), x.undo(1), x.touch(0, 1)), Edges.STATE);
        e.is("TOUCHED ahead of the DAY, not on the next", x -> Edges.last(x.lots(1, 2147483646), x.touch(0, 1)), 2);
    }

    private static void pairsAtTheEnd(Edges e) {
        e.sentence(40, "how many pairs MEET at the end");
        e.beginHouse("z0 c0040 c0140 c1040 c1040 c1040 c1040");
        e.is("lots(1, 1): none TOUCHED", x -> x.lots(1, 1), 6);
        e.is("lots(2, 1): 0 by 1", x -> x.lots(2, 1), 7);
        e.is("lots(3, 1): 0 by 2", x -> x.lots(3, 1), 6);
        e.beginHouse("z0 c0040 c0040 c0040 c0040 c0040 c0040");
        e.is("lots(1, 1) of six together", x -> x.lots(1, 1), 15);
        e.is("lots(2, 1) of six together", x -> x.lots(2, 1), 10);
    }

    private static void chancesBefore(Edges e) {
        e.beginNew();
        e.sentence(42, "0 before");
        e.is("upper()", x -> (int) x.upper(), 0);
        e.sentence(43, "1 before");
        e.is("lower()", x -> (int) x.lower(), 1);
        e.is("lower() behind odds() that was refused", x -> Edges.last(x.odds(0, 1, 0, 0), (int) x.lower()), 1);
        e.beginHouse("z0 c0040 c0140");
        e.is("lower() of a HOUSE", x -> (int) x.lower(), 1);
        e.is("upper() of a HOUSE", x -> (int) x.upper(), 0);
    }

    private static void chancesStay(Edges e) {
        e.sentence(42, "of the chances that were told last");
        e.beginHouse("z0 c0040 c0140 s0140");
        e.tellsChances("mid behind odds", x -> Edges.last(x.odds(0, 1, 1, 6), x.mid(0, 5, 3)), 5, 4);
        e.tellsChances("odds behind mid", x -> Edges.last(x.mid(0, 5, 3), x.odds(0, 1, 1, 6)), 1, 4);
        e.tellsChances("none behind some", x -> Edges.last(x.mid(0, 5, 3), x.odds(0, 1, 0, 6)), 0, 1);
        e.tellsChances("refused ones behind", x -> Edges.last(x.mid(0, 5, 3), x.mid(0, 61, 3), x.odds(0, 1, 7, 6),
            x.odds(0, 0, 1, 1), x.mid(3, 1, 1), 1), 5, 4);
        e.tellsChances("other calls behind", x -> Edges.last(x.mid(0, 5, 3), x.day(), x.touch(0, 1), x.undo(0), x.house(0),
            x.meets(0), x.soon(), x.row(0, 3), 1), 5, 4);
    }
}
