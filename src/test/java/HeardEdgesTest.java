/** The edges of promises 32 to 35, sentence by sentence: what is late, what was heard. */
public final class HeardEdgesTest {
    private static final int NONE = Edges.NONE, MOST = Edges.MOST, LEAST = Edges.LEAST;
    private static final String[] NAMES = {"rates", "kinds", "from"};
    /** What these answer, if nothing was heard. */
    private static final int[] ALL = {1023, 63, 60};

    public static void main(String[] args) {
        Edges e = new Edges();
        lateNumbers(e);
        lateSizes(e);
        lateMinutes(e);
        touchedJustOnce(e);
        whoIsLate(e);
        heardNumbers(e);
        heardSizes(e);
        heardDays(e);
        heardMinutes(e);
        heardOfNone(e);
        ratesByBits(e);
        ratesOnDays(e);
        kindsByBits(e);
        kindsOnDays(e);
        fromHowMany(e);
        e.end("HeardEdgesTest");
    }

    private static NeverTogether houseWith(Due due, String text, int... row) {
        NeverTogether x = due.house(text);
        due.row(x, 1, row);
        return x;
    }

    private static void lateNumbers(Edges e) {
        e.sentence(32, "MINUTES seen of all in a ROW .. BAD; STATE: no TIMEPIECES; NOTHING");
        e.begin(() -> {
            NeverTogether x = e.due.house("z0 c0040");
            for (int r = 0; r < 6; r++) {
                x.row(r, 1);
            }
            return x;
        });
        e.range("late(v)", (x, r) -> x.late(r), 0, 5, r -> 0);
        e.begin(() -> houseWith(e.due, "z0 c0040", 0));
        e.allFind("late(v) of a missing one", (x, r) -> x.late(r), Edges.NOTHING, 0, 2, 3, 4, 5);
        e.in("late(v) of the one that is there", (x, r) -> x.late(r), r -> 0, 1);
        e.begin(() -> Edges.withRows(0, 1, 6));
        for (int r = 0; r < 6; r++) {
            int row = r;
            e.refused("late(" + r + ") without TIMEPIECES", x -> x.late(row), Edges.STATE);
        }
    }

    private static void lateSizes(Edges e) {
        e.sentence(32, "SIZE: not as many");
        String[] houses = {"z0 c0040", "z0 c0040c0040", "z0 c0040c0040c0040c0040c0040c0040"};
        int[] pieces = {1, 2, 6};
        for (int k = 0; k < houses.length; k++) {
            String text = houses[k];
            int due = pieces[k];
            e.beginHouse(text);
            e.in("late(1) of v ints", (x, n) -> Edges.last(x.row(1, n), x.late(1)), n -> 0, due);
            for (int n : new int[] {0, due - 1, due + 1, 40}) {
                e.begin(() -> houseWith(e.due, text, new int[n]));
                e.finds("late(1) of " + n + " for " + due, x -> x.late(1), Edges.SIZE);
            }
        }
    }

    private static void lateMinutes(Edges e) {
        e.sentence(32, "UNLIKE: no MINUTE");
        for (int place = 0; place < 3; place++) {
            for (int v : new int[] {-1, 60, 61, -60, LEAST, MOST}) {
                int[] row = new int[3];
                row[place] = v;
                e.begin(() -> houseWith(e.due, "z0 c0040 c0040 c0040", row));
                e.finds("late(1) with " + v + " at " + place, x -> x.late(1), Edges.UNLIKE);
            }
            for (int v : new int[] {0, 1, 58, 59}) {
                int[] row = new int[3];
                row[place] = v;
                e.begin(() -> houseWith(e.due, "z0 c0040 c0040 c0040", row));
                e.tells("late(1) with " + v + " at " + place, x -> x.late(1), v == 0 ? 0 : 1 << place, 1);
            }
        }
    }

    private static void touchedJustOnce(Edges e) {
        e.sentence(32, "whether each of these can have been TOUCHED just once by asked() (1, 0: by -5 .. 5)");
        for (int minute : new int[] {0, 1, 5, 6, 30, 54, 55, 59}) {
            String text = "z0 c" + minute / 10 + minute % 10 + "50";
            for (int off = -30; off < 30; off++) {
                int seen = Edges.ring(minute + off);
                e.begin(() -> houseWith(e.due, text, seen));
                e.tells("late(1) by " + off + " at " + minute, x -> x.late(1), off == 0 ? 0 : 1, off >= -5 && off <= 5 ? 1 : 0);
            }
        }
        int[][] rows = {{0, 30}, {5, 25}, {55, 35}, {6, 30}, {0, 24}, {5, 36}, {54, 35}, {54, 36}};
        int[] late = {0, 3, 3, 1, 2, 3, 3, 3};
        int[] once = {1, 1, 1, 0, 0, 0, 0, 0};
        for (int k = 0; k < rows.length; k++) {
            int[] row = rows[k];
            e.begin(() -> houseWith(e.due, "z3 c0040 b3040", row));
            e.tells("late(1) of two, " + k, x -> x.late(1), late[k], once[k]);
        }
    }

    private static void whoIsLate(Edges e) {
        e.sentence(32, "TIMEPIECES (bits) that are not at it");
        for (int set = 0; set < 64; set++) {
            int[] row = new int[6];
            for (int i = 0; i < 6; i++) {
                row[i] = 10 * i + (set >> i & 1);
            }
            int bits = set;
            e.begin(() -> houseWith(e.due, "z3 c0040 c1050 b2040 r3040 s4040 m5040", row));
            e.tells("late(1) of " + set, x -> x.late(1), bits, 1);
        }
        e.begin(() -> houseWith(e.due, "z3 c0050 b3040", 0, 30));
        e.tells("late(1) now", x -> x.late(1), 0, 1);
        e.tells("late(1) the next DAY", x -> Edges.last(x.day(), x.late(1)), 3, 1);
        e.tells("late(1) behind a TOUCH", x -> Edges.last(x.touch(1, -5), x.late(1)), 2, 1);
    }

    private static void heardNumbers(Edges e) {
        for (int which = 0; which < 3; which++) {
            int w = which;
            e.sentence(33 + w, "Heard of a TIMEPIECE in a ROW .. BAD; NOTHING");
            e.begin(() -> {
                NeverTogether x = e.due.house("z0 c0040c0040c0040c0040c0040c0040");
                for (int r = 0; r < 6; r++) {
                    x.row(r, 0);
                }
                return x;
            });
            e.range(NAMES[w] + "(v, 0)", (x, i) -> Edges.heard(x, w, i, 0), 0, 5, i -> ALL[w]);
            e.range(NAMES[w] + "(0, v)", (x, r) -> Edges.heard(x, w, 0, r), 0, 5, r -> ALL[w]);
            e.begin(() -> houseWith(e.due, "z0 c0040"));
            e.range(NAMES[w] + "(v, 1) of one", (x, i) -> Edges.heard(x, w, i, 1), 0, 0, i -> ALL[w]);
            e.allFind(NAMES[w] + "(0, v) of missing ones", (x, r) -> Edges.heard(x, w, 0, r), Edges.NOTHING, 0, 2, 3, 4, 5);
            e.begin(() -> Edges.withRows(0, 0));
            e.bad(NAMES[w] + "(v, 0) without TIMEPIECES", (x, i) -> Edges.heard(x, w, i, 0), -1, 0, 1);
        }
    }

    private static void heardSizes(Edges e) {
        for (int which = 0; which < 3; which++) {
            int w = which;
            e.sentence(33 + w, "SIZE: not by pairs");
            for (int n : new int[] {0, 2, 4, 38, 40}) {
                e.begin(() -> houseWith(e.due, "z0 c0040", new int[n]));
                e.is(NAMES[w] + "(0, 1) of " + n, x -> Edges.heard(x, w, 0, 1), n > 0 && w == 2 ? 1 : ALL[w]);
            }
            for (int n : new int[] {1, 3, 37, 39}) {
                e.begin(() -> houseWith(e.due, "z0 c0040", new int[n]));
                e.finds(NAMES[w] + "(0, 1) of " + n, x -> Edges.heard(x, w, 0, 1), Edges.SIZE);
            }
        }
    }

    /** One of RATE 1 from 0: in so many DAYS it is at that MINUTE. */
    private static void heardDays(Edges e) {
        for (int which = 0; which < 3; which++) {
            int w = which;
            e.sentence(33 + w, "(DAYS from now 0 .. 60, its MINUTE then) .. UNLIKE");
            for (int pair = 0; pair < 20; pair += 19) {
                for (int days : new int[] {0, 1, 59, 60}) {
                    int[] row = new int[40];
                    row[2 * pair] = days;
                    row[2 * pair + 1] = days % 60;
                    NeverTogether x = houseWith(e.due, "z0 c0050", row);
                    e.isTrue(NAMES[w] + " in " + days + " DAYS", Edges.heard(x, w, 0, 1) > 0);
                }
                for (int days : new int[] {-1, 61, LEAST, MOST}) {
                    int[] row = new int[40];
                    row[2 * pair] = days;
                    e.begin(() -> houseWith(e.due, "z0 c0050", row));
                    e.finds(NAMES[w] + " in " + days + " DAYS", x -> Edges.heard(x, w, 0, 1), Edges.UNLIKE);
                }
            }
        }
    }

    private static void heardMinutes(Edges e) {
        for (int which = 0; which < 3; which++) {
            int w = which;
            e.sentence(33 + w, "(DAYS from now, its MINUTE then) .. UNLIKE: a number that is none");
            for (int minute : new int[] {0, 1, 58, 59}) {
                e.begin(() -> houseWith(e.due, "z0 c0040", 0, minute));
                e.is(NAMES[w] + " at " + minute, x -> Edges.heard(x, w, 0, 1), w == 2 ? 1 : minute == 0 ? ALL[w] : 0);
            }
            for (int minute : new int[] {-1, 60, LEAST, MOST}) {
                e.begin(() -> houseWith(e.due, "z0 c0040", 0, minute));
                e.finds(NAMES[w] + " at " + minute, x -> Edges.heard(x, w, 0, 1), Edges.UNLIKE);
                e.begin(() -> houseWith(e.due, "z0 c0040", 0, 0, 0, minute));
                e.finds(NAMES[w] + " at 0 and " + minute, x -> Edges.heard(x, w, 0, 1), Edges.UNLIKE);
                e.begin(() -> houseWith(e.due, "z0 c0040", 0, 5, 0, minute));
                e.finds(NAMES[w] + " at 5, which can't be, and " + minute, x -> Edges.heard(x, w, 0, 1), Edges.UNLIKE);
            }
        }
    }

    private static void heardOfNone(Edges e) {
        e.begin(() -> houseWith(e.due, "z3 b0740"));
        e.sentence(33, "which RATES (bits 0 .. 9), nothing having been heard");
        e.is("rates(0, 1)", x -> x.rates(0, 1), 1023);
        e.sentence(34, "Of which KINDS (bits), nothing having been heard");
        e.is("kinds(0, 1)", x -> x.kinds(0, 1), 63);
        e.sentence(35, "From how many MINUTES now, nothing having been heard");
        e.tells("from(0, 1)", x -> x.from(0, 1), 60, 0);
    }

    private static void rates(Edges e, String text, int want, int... row) {
        e.begin(() -> houseWith(e.due, text, row));
        e.is("rates(0, 1) of " + text + " by " + java.util.Arrays.toString(row), x -> x.rates(0, 1), want);
    }

    private static void ratesByBits(Edges e) {
        e.sentence(33, "which RATES (bits 0 .. 9: the RATE and 4) it can have, from its MINUTE now");
        for (int minute : new int[] {0, 30, 59}) {
            String at = "" + minute / 10 + minute % 10;
            for (int rate = -7; rate <= 8; rate++) {
                int heard = Edges.ring(minute + rate);
                int bit = rate < -4 || rate > 5 ? 0 : 1 << rate + 4;
                rates(e, "z0 c" + at + "40", bit, 1, heard);
                rates(e, "z0 m" + at + "90", bit, 1, heard);
                int brass = rate - 3;
                rates(e, "z3 b" + at + "40", brass < -4 || brass > 5 ? 0 : 1 << brass + 4, 1, heard);
                int regulator = rate + 3;
                rates(e, "z3 r" + at + "40", regulator < -4 || regulator > 5 ? 0 : 1 << regulator + 4, 1, heard);
                rates(e, "z3 s" + at + "40", rate == 0 ? 1023 : 0, 1, heard);
            }
        }
    }

    private static void ratesOnDays(Edges e) {
        e.sentence(33, "in a ROW of pairs (DAYS from now 0 .. 60, its MINUTE then)");
        rates(e, "z0 c0040", 1023, 60, 0);
        rates(e, "z0 c0040", 0, 60, 1);
        rates(e, "z0 c0040", 1 << 5, 59, 59);
        rates(e, "z0 c0040", 1 << 3, 59, 1);
        rates(e, "z0 c0040", 0, 1, 1, 2, 3);
        rates(e, "z0 c0040", 1 << 5, 1, 1, 2, 2);
        rates(e, "z0 c0040", 1 << 5, 60, 0, 1, 1);
        rates(e, "z001 b0040", 1023, 60, 20);
        rates(e, "z001 b0040", 1 << 4, 59, 19);
        rates(e, "z001 r0040", 1023, 60, 40);
        NeverTogether x = houseWith(e.due, "z001 b0040", 1, 1);
        x.day();
        x.day();
        e.is("rates(0, 1) on DAY 2, from its MINUTE then", x.rates(0, 1), 1 << 4);
        x.touch(0, 1);
        e.is("rates(0, 1) behind a TOUCH", x.rates(0, 1), 1 << 3);
    }

    private static void kinds(Edges e, String text, int want, int... row) {
        e.begin(() -> houseWith(e.due, text, row));
        e.is("kinds(0, 1) of " + text + " by " + java.util.Arrays.toString(row), x -> x.kinds(0, 1), want);
    }

    private static void kindsByBits(Edges e) {
        e.sentence(34, "Of which KINDS (bits) it can be, so, its RATE being as it is.");
        for (char letter : "ckbsmr".toCharArray()) {
            String text = "z3 " + letter + "5850";
            kinds(e, text, 0, 1, 55);
            kinds(e, text, 32, 1, 56);
            kinds(e, text, 0, 1, 57);
            kinds(e, text, 8, 1, 58);
            kinds(e, text, 1 + 2 + 16, 1, 59);
            kinds(e, text, 0, 1, 0);
            kinds(e, text, 0, 1, 1);
            kinds(e, text, 4, 1, 2);
            kinds(e, text, 0, 1, 3);
            kinds(e, text, 63, 0, 58);
            kinds(e, text, 0, 0, 59);
        }
        kinds(e, "z0 c0040", 63, 1, 0);
        kinds(e, "z1 c0050", 8 + 32, 1, 0);
        kinds(e, "z1 c0030", 4 + 8, 1, 0);
    }

    private static void kindsOnDays(Edges e) {
        e.sentence(34, "in a ROW of pairs (DAYS from now 0 .. 60, its MINUTE then)");
        kinds(e, "z001 c0040", 4, 60, 20);
        kinds(e, "z001 c0040", 32, 60, 40);
        kinds(e, "z001 c0040", 1 + 2 + 8 + 16, 60, 0);
        kinds(e, "z001 c0040", 63, 2, 0);
        kinds(e, "z001 c0040", 4, 2, 0, 3, 1);
        kinds(e, "z001 c0040", 32, 2, 0, 3, 59);
        kinds(e, "z001 c0050", 8, 60, 0, 1, 0);
        NeverTogether x = houseWith(e.due, "z001 c0040", 1, 1);
        x.day();
        x.day();
        e.is("kinds(0, 1) on DAY 2, from its MINUTE then", x.kinds(0, 1), 4);
    }

    private static void from(Edges e, String text, int want, int first, int... row) {
        e.begin(() -> houseWith(e.due, text, row));
        e.tells("from(0, 1) of " + text + " by " + java.util.Arrays.toString(row), x -> x.from(0, 1), want, first);
    }

    private static void fromHowMany(Edges e) {
        e.sentence(35, "From how many MINUTES now it can be so; the first by asked() (NONE).");
        for (int minute = 0; minute < 60; minute++) {
            from(e, "z3 c1050", 1, minute, 0, minute);
            from(e, "z3 c1050", 1, Edges.ring(minute - 1), 1, minute);
            from(e, "z3 b1050", 1, Edges.ring(minute - 4), 1, minute);
            from(e, "z3 r1050", 1, Edges.ring(minute + 2), 1, minute);
            from(e, "z3 s1050", 1, minute, 60, minute);
        }
        from(e, "z001 b0050", 1, 40, 60, 0);
        from(e, "z001 b0050", 1, 42, 59, 0);
        from(e, "z3 c1050", 1, 58, 1, 59, 2, 0);
        from(e, "z3 c1050", 0, NONE, 1, 59, 2, 59);
        from(e, "z3 c1050", 0, NONE, 0, 1, 0, 2);
        e.begin(() -> Edges.passed(houseWith(e.due, "z001 b0050", 1, 0), 2));
        e.tells("from(0, 1) on DAY 2, which is warm", x -> x.from(0, 1), 1, 58);
    }
}
