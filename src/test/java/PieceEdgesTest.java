/** The edges of promises 12 to 14, of KINDS, of what STRIKES, GAINS and MEETS, sentence by sentence. */
public final class PieceEdgesTest {
    private static final String LETTERS = "ckbsmr";
    private static final int[] STRIKES = {1, 2, 1, 1, 3, 1};
    /** Of each KIND which of the KINDS 1 .. 5 it is. */
    private static final String[] IS = {"", "1", "2", "3", "14", "25"};

    public static void main(String[] args) {
        Edges e = new Edges();
        pieceNumbers(e);
        pieceParts(e);
        touchedThisDay(e);
        markNumbers(e);
        whatIsOfAKind(e);
        lastMinutes(e);
        gainsThisDay(e);
        visitorsOfAStoppedOne(e);
        whoMeetsAChime(e);
        idleDays(e);
        heatNumbers(e);
        heatsAgainFromTheFirst(e);
        heatWithoutPieces(e);
        meetings(e);
        gains(e);
        e.end("PieceEdgesTest");
    }

    private static void pieceNumbers(Edges e) {
        e.sentence(12, "Of a TIMEPIECE: .. told by asked(): 1. BAD.");
        e.beginHouse(Due.ALL_KINDS);
        e.range("piece(v, 0) of six", (x, i) -> x.piece(i, 0), 0, 5, i -> 1);
        e.range("piece(0, v)", (x, what) -> x.piece(0, what), 0, 5, what -> 1);
        e.beginHouse("z0 c0000");
        e.range("piece(v, 0) of one", (x, i) -> x.piece(i, 0), 0, 0, i -> 1);
        e.beginHouse("z0 c0000 k0000");
        e.range("piece(v, 5) of two", (x, i) -> x.piece(i, 5), 0, 1, i -> 1);
        e.beginNew();
        e.bad("piece(v, 0) of none", (x, i) -> x.piece(i, 0), -1, 0, 1);
        for (int i = 0; i < 6; i++) {
            int piece = i;
            e.beginHouse(Due.ALL_KINDS);
            e.tells("piece(" + i + ", 0)", x -> x.piece(piece, 0), 1, i);
        }
    }

    private static void parts(Edges e, String text, int... parts) {
        e.beginHouse(text);
        for (int what = 0; what < parts.length; what++) {
            int w = what;
            e.tells("piece(0, " + what + ") of " + text, x -> x.piece(0, w), 1, parts[what]);
        }
    }

    private static void pieceParts(Edges e) {
        e.sentence(12, "0 the KIND, 1 the MINUTE now, 2 the RATE, 3 the FLOOR, 4 for how many MINUTES it STRIKES");
        parts(e, "z0 c0000", 0, 0, -4, 0, 1, 0);
        parts(e, "z0 r5993", 5, 59, 5, 3, 1, 0);
        for (int kind = 0; kind < 6; kind++) {
            parts(e, "z0 " + LETTERS.charAt(kind) + "0140", kind, 1, 0, 0, STRIKES[kind], 0);
        }
        for (int figure = 0; figure <= 9; figure++) {
            parts(e, "z0 c58" + figure + "1", 0, 58, figure - 4, 1, 1, 0);
        }
        for (int floor = 0; floor <= 3; floor++) {
            parts(e, "z0 c094" + floor, 0, 9, 0, floor, 1, 0);
        }
    }

    private static void touchedThisDay(Edges e) {
        e.sentence(12, "5 whether it was TOUCHED this DAY (1, 0)");
        e.beginHouse("z0 c0040 c3040");
        e.tells("ahead", x -> x.piece(0, 5), 1, 0);
        e.tells("behind touch(0, 1)", x -> Edges.last(x.touch(0, 1), x.piece(0, 5)), 1, 1);
        e.tells("the other one behind touch(0, 1)", x -> Edges.last(x.touch(0, 1), x.piece(1, 5)), 1, 0);
        e.tells("both", x -> Edges.last(x.touch(1, 1), x.touch(0, 1), x.piece(1, 5)), 1, 1);
        e.tells("the next DAY", x -> Edges.last(x.touch(0, 1), x.day(), x.piece(0, 5)), 1, 0);
        e.tells("the DAY undone", x -> Edges.last(x.touch(0, 1), x.day(), x.undo(1), x.piece(0, 5)), 1, 1);
        e.tells("the TOUCH undone", x -> Edges.last(x.touch(0, 1), x.undo(0), x.piece(0, 5)), 1, 0);
        e.tells("refused", x -> Edges.last(x.touch(0, 6), x.piece(0, 5)), 1, 0);
    }

    private static void markNumbers(Edges e) {
        e.sentence(13, "BAD: also KIND 0");
        e.beginHouse("z0 m0040m0540m1040m1540m2040m2540");
        e.range("mark(v, 1)", (x, i) -> x.mark(i, 1), 0, 5, i -> 5 * i + 2);
        e.range("mark(v, 4)", (x, i) -> x.mark(i, 4), 0, 5, i -> 0);
        e.bad("mark(0, v)", (x, kind) -> x.mark(0, kind), 0, -1, 6, 7, Edges.LEAST, Edges.MOST);
        e.beginHouse("z0 r0040");
        e.in("mark(0, v): 5 is a KIND", (x, kind) -> x.mark(0, kind), kind -> 7, 5);
        e.range("mark(v, 2) of one", (x, i) -> x.mark(i, 2), 0, 0, i -> 0);
        e.beginNew();
        e.bad("mark(v, 1) of none", (x, i) -> x.mark(i, 1), -1, 0, 1);
    }

    private static void whatIsOfAKind(Edges e) {
        e.sentence(13, "What a TIMEPIECE that IS of a KIND tells .. UNLIKE.");
        int[][] marks = {{}, {0, 6}, {0, 0, 0}, {0, 0, 0, 0}, {0, 22, 0, 0, 0}, {0, 0, 0, 0, 0, 7}};
        e.beginHouse("z0 c0040k0540b1040s1540m2040r2540");
        for (int i = 0; i < 6; i++) {
            for (int kind = 1; kind <= 5; kind++) {
                int piece = i;
                int k = kind;
                if (IS[i].indexOf('0' + kind) >= 0) {
                    e.is("mark(" + i + ", " + kind + ")", x -> x.mark(piece, k), marks[i][kind]);
                } else {
                    e.finds("mark(" + i + ", " + kind + ")", x -> x.mark(piece, k), Edges.UNLIKE);
                }
            }
        }
    }

    private static void mark(Edges e, String text, int kind, int want) {
        e.beginHouse(text);
        e.is("mark(0, " + kind + ") of " + text, x -> x.mark(0, kind), want);
    }

    private static void markAfterADay(Edges e, String text, int kind, int want) {
        e.beginAfter(text, 1);
        e.is("mark(0, " + kind + ") of " + text + " on DAY 1", x -> x.mark(0, kind), want);
    }

    private static void lastMinutes(Edges e) {
        e.sentence(13, "a CUCKOO (CHIME, too) the last MINUTE in which it STRIKES");
        for (int minute : new int[] {0, 1, 30, 56, 57, 58, 59}) {
            String figures = "" + minute / 10 + minute % 10;
            mark(e, "z3 k" + figures + "90", 1, (minute + 1) % 60);
            mark(e, "z3 m" + figures + "90", 1, (minute + 2) % 60);
        }
        markAfterADay(e, "z3 k5350", 1, 55);
        markAfterADay(e, "z3 m5890", 1, 5);
    }

    private static void gainsThisDay(Edges e) {
        e.sentence(13, "a BRASS one (REGULATOR, too) what it GAINS this DAY");
        for (int figure = 0; figure <= 9; figure++) {
            for (int heat = 0; heat <= 3; heat++) {
                mark(e, "z" + heat + " b00" + figure + "0", 2, figure - 4 + heat);
                mark(e, "z" + heat + " r00" + figure + "0", 2, figure - 4 - heat);
            }
        }
        mark(e, "z031 b0040", 2, 0);
        markAfterADay(e, "z031 b0040", 2, 3);
        markAfterADay(e, "z031 r0040", 2, -3);
        markAfterADay(e, "z2 b0040", 2, 2);
    }

    /** By HEAT 1 every other DAY one has gained 30 in 59 DAYS if the first was warm, else in 60. */
    private static void visitorsOfAStoppedOne(Edges e) {
        e.sentence(13, "how many others will be at its MINUTE some time in 60 DAYS from now on (0 .. 59)");
        mark(e, "z10 s2940 b0040", 3, 1);
        mark(e, "z01 s2940 b0040", 3, 1);
        mark(e, "z10 s3040 b0040", 3, 1);
        mark(e, "z01 s3040 b0040", 3, 0);
        mark(e, "z10 s3140 b0040", 3, 0);
        markAfterADay(e, "z01 s3040 b0040", 3, 1);
        mark(e, "z0 s0040 c0150", 3, 1);
        mark(e, "z0 s0040 c0050", 3, 1);
        mark(e, "z0 s0040 c0160", 3, 0);
        // Where it would have been on the DAY ahead does not count.
        mark(e, "z01 s0040 b0150", 3, 0);
        markAfterADay(e, "z01 s0040 b0150", 3, 0);
        mark(e, "z0 s0040", 3, 0);
        mark(e, "z0 s0040 m5840", 3, 0);
        mark(e, "z0 s0040 m0040", 3, 1);
        mark(e, "z0 s0040 s0040", 3, 1);
        mark(e, "z0 s0040 s0140", 3, 0);
        mark(e, "z0 s0090 c0040 k0050 b0060 m0040 r0040", 3, 5);
        mark(e, "z0 s0090 c0140 k0150 b0160 m0140 r0140", 3, 1);
        e.beginHouse("z0 c0050 c3040 s0240");
        e.is("mark(2, 3): not itself", x -> x.mark(2, 3), 1);
    }

    private static void whoMeetsAChime(Edges e) {
        e.sentence(13, "a CHIME how many others it MEETS now");
        int[] at = {56, 57, 58, 59, 0, 1, 2, 3};
        int[] plain = {0, 0, 0, 1, 1, 1, 0, 0};
        int[] cuckoo = {0, 0, 1, 1, 1, 1, 0, 0};
        int[] chime = {0, 1, 1, 1, 1, 1, 0, 0};
        for (int k = 0; k < at.length; k++) {
            String figures = "" + at[k] / 10 + at[k] % 10 + "40";
            mark(e, "z0 m5940 c" + figures, 4, plain[k]);
            mark(e, "z0 m5940 k" + figures, 4, cuckoo[k]);
            mark(e, "z0 m5940 m" + figures, 4, chime[k]);
        }
        mark(e, "z0 m5940", 4, 0);
        mark(e, "z0 m5940 c5940 k5840 b0040 s0140 m5740", 4, 5);
        mark(e, "z3 m0040 b5940", 4, 0);
        mark(e, "z3 m0040 r0340", 4, 0);
        mark(e, "z3 m0090 c0540", 4, 0);
        markAfterADay(e, "z3 m0040 b5940", 4, 1);
        markAfterADay(e, "z3 m0090 c0540", 4, 1);
    }

    private static void idleDays(Edges e) {
        e.sentence(13, "a REGULATOR in how many of 7 DAYS from now on it GAINS nothing");
        mark(e, "z0 r0040", 5, 7);
        mark(e, "z0 r0050", 5, 0);
        mark(e, "z1 r0040", 5, 0);
        mark(e, "z1000000 r0050", 5, 1);
        mark(e, "z0000001 r0050", 5, 1);
        mark(e, "z0000010 r0050", 5, 1);
        mark(e, "z1000000 r0040", 5, 6);
        mark(e, "z0000001 r0040", 5, 6);
        mark(e, "z10 r0050", 5, 4);
        mark(e, "z01 r0050", 5, 3);
        mark(e, "z3 r0070", 5, 7);
        mark(e, "z3 r0010", 5, 0);
        markAfterADay(e, "z1000000 r0050", 5, 1);
        markAfterADay(e, "z0100000 r0050", 5, 1);
        markAfterADay(e, "z10 r0050", 5, 3);
        markAfterADay(e, "z01 r0050", 5, 4);
    }

    private static void heatNumbers(Edges e) {
        e.sentence(14, "The HEAT of a DAY (0 .. 999). BAD");
        e.beginHouse("z0123321 c0000");
        e.range("heat(v)", (x, day) -> x.heat(day), 0, 999, day -> "0123321".charAt(day % 7) - '0');
        e.beginAfter("z0123321 c0000", 3);
        e.range("heat(v) on DAY 3", (x, day) -> x.heat(day), 0, 999, day -> "0123321".charAt(day % 7) - '0');
    }

    private static void heatsAgainFromTheFirst(Edges e) {
        e.sentence(0, "the HEAT of DAYS 0, 1, .. (1 to 7 figures 0 .. 3 ..; then again from the first on)");
        for (int many = 1; many <= 7; many++) {
            String heats = "3120132".substring(0, many);
            e.beginHouse("z" + heats + " b0040");
            e.in("heat(v) of " + heats, (x, day) -> x.heat(day), day -> heats.charAt(day % heats.length()) - '0',
                0, many - 1, many, many + 1, 2 * many - 1, 2 * many, 998, 999);
            int sum = 0;
            for (int n = 0; n <= 2 * many + 1; n++) {
                int days = n;
                e.is("a BRASS one in " + n + " DAYS of " + heats, x -> x.minute(0, days), sum);
                sum += heats.charAt(n % many) - '0';
            }
        }
    }

    private static void heatWithoutPieces(Edges e) {
        e.sentence(14, "STATE: no TIMEPIECES.");
        e.beginNew();
        e.in("heat(v)", (x, day) -> x.heat(day), day -> Edges.STATE, 0, 1, 998, 999);
        e.refused("heat(0)", x -> x.heat(0), Edges.STATE);
        e.beginHouse("z3 c0000");
        e.is("heat(0) of one", x -> x.heat(0), 3);
    }

    /** One STRIKES from a MINUTE on, the other one from so many further on. */
    private static void meetings(Edges e) {
        e.sentence(0, "Two MEET, if they STRIKE in a MINUTE both.");
        for (int a = 0; a < 6; a++) {
            for (int b = 0; b < 6; b++) {
                for (int far = -4; far <= 4; far++) {
                    boolean meet = far < STRIKES[a] && -far < STRIKES[b];
                    for (int minute : new int[] {0, 1, 2, 30, 57, 58, 59}) {
                        twoMeet(e, a, minute, b, Edges.ring(minute + far), meet);
                    }
                }
            }
        }
    }

    private static void twoMeet(Edges e, int a, int minute, int b, int other, boolean meet) {
        String text = "z0" + piece(a, minute) + piece(b, other);
        NeverTogether x = e.due.house(text);
        e.is("meet(0, 1) of " + text, x.meet(0, 1), meet ? 0 : Edges.NONE);
        e.is("count(3) of " + text, x.count(3), meet ? 1 : 0);
        e.is("cat(0) of " + text, x.cat(0), meet ? 0 : 1);
        e.told("meets(0) of " + text, x, x.meets(0), meet ? 1 : 0, meet ? 3 : 0);
        e.told("out(0) of " + text, x, x.out(0), meet ? 1 : 0, meet ? 1 : 0);
        int sounding = 0;
        for (int m = 0; m < 60; m++) {
            sounding += Edges.ring(m - minute) < STRIKES[a] || Edges.ring(m - other) < STRIKES[b] ? 1 : 0;
        }
        e.is("sounds(0) of " + text, x.sounds(0), sounding);
    }

    private static String piece(int kind, int minute) {
        return "" + LETTERS.charAt(kind) + minute / 10 + minute % 10 + "40";
    }

    private static void gains(Edges e) {
        e.sentence(0, "On a DAY it GAINS its RATE; a BRASS one the HEAT of that DAY besides; a REGULATOR the HEAT less; "
            + "a STOPPED one nothing at all.");
        for (int kind = 0; kind < 6; kind++) {
            for (int rate = -4; rate <= 5; rate++) {
                for (int heat = 0; heat <= 3; heat++) {
                    int gain = kind == 3 ? 0 : kind == 2 ? rate + heat : kind == 5 ? rate - heat : rate;
                    for (int minute : new int[] {0, 3, 30, 56, 59}) {
                        gain(e, "z" + heat + LETTERS.charAt(kind) + minute / 10 + minute % 10 + (rate + 4) + "0",
                            minute, gain);
                    }
                }
            }
        }
    }

    private static void gain(Edges e, String text, int minute, int gain) {
        NeverTogether x = e.due.house(text);
        for (int n : new int[] {0, 1, 2, 60, 419, 420}) {
            e.is("minute(0, " + n + ") of " + text, x.minute(0, n), Edges.ring(minute + n * gain));
        }
        x.day();
        e.is("day() of " + text, x.minute(0, 0), Edges.ring(minute + gain));
    }
}
