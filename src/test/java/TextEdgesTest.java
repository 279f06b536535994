/** The edges of promises 8 to 11, of TEXTS and of the small language, sentence by sentence. */
public final class TextEdgesTest {
    private static final int MOST = Edges.MOST, LEAST = Edges.LEAST, NONE = Edges.NONE;
    /** Seven DAYS, six TIMEPIECES: read ahead of each case, so that nothing of an earlier reading is left in it. */
    private static final String LARGEST = "z0123012c0000k1000b2000s3000m4000r5000";

    public static void main(String[] args) {
        Edges e = new Edges();
        textNumbers(e);
        textSizes(e);
        fourFullTexts(e);
        putPlaces(e);
        putBytes(e);
        blanks(e);
        noBlanksWithin(e);
        heatFigures(e);
        howManyPieces(e);
        pieceFigures(e);
        everyByte(e);
        endsTooEarly(e);
        faultNumbers(e);
        houseNumbers(e);
        houseAnew(e);
        houseWithFault(e);
        e.end("TextEdgesTest");
    }

    private static NeverTogether texts(int... sizes) {
        NeverTogether x = new NeverTogether();
        for (int t = 0; t < sizes.length; t++) {
            x.text(t, sizes[t]);
        }
        return x;
    }

    private static void textNumbers(Edges e) {
        e.sentence(8, "TEXTS 0 .. 3");
        e.beginNew();
        e.range("text(v, 3)", (x, t) -> x.text(t, 3), 0, 3, t -> 3);
        e.in("text(v, 1) alone is there", (x, t) -> x.text(t, 1) + x.count(7) + x.put(t, 0, 65), t -> 1034, 0, 1, 2, 3);
    }

    private static void textSizes(Edges e) {
        e.sentence(8, "A TEXT is there with n blanks: n. BAD: also n above 60; SIZE: below 0.");
        e.beginNew();
        e.in("text(2, v)", (x, n) -> x.text(2, n), n -> n, 0, 1, 2, 59, 60);
        e.bad("text(2, v)", (x, n) -> x.text(2, n), 61, 62, MOST);
        e.allFind("text(2, v)", (x, n) -> x.text(2, n), Edges.SIZE, -1, -2, LEAST);
        for (int n : new int[] {0, 1, 2, 59, 60}) {
            NeverTogether x = texts(n);
            for (int i = 0; i < n; i++) {
                e.is("a blank at " + i + " of " + n, x.put(0, i, 65), 1032);
            }
            e.found("none at " + n + " of " + n, x, () -> x.put(0, n, 65), Edges.BEYOND);
            e.is("text(0, 60) anew", x.text(0, 60), 60);
            for (int i = 0; i < 60; i++) {
                e.is("a blank again at " + i, x.put(0, i, 65), 1032);
            }
        }
        e.begin(() -> texts(1, 1, 2));
        e.bad("text(2, v) leaves what was there", (x, n) -> x.text(2, n), 61, MOST);
        e.allFind("text(2, v) leaves what was there", (x, n) -> x.text(2, n), Edges.SIZE, -1, LEAST);
    }

    /** 484 calls. */
    private static void fourFullTexts(Edges e) {
        e.sentence(0, "TEXTS 0 .. 3 rows of 0 to 60 bytes");
        NeverTogether x = texts(60, 60, 60, 60);
        for (int k = 0; k < 240; k++) {
            x.put(k / 60, k % 60, k - 120);
        }
        boolean all = true;
        for (int k = 0; k < 240; k++) {
            all &= x.put(k / 60, k % 60, 32) == k - 120 + 1000;
        }
        e.isTrue("240 bytes, each in a place of its own", all);
    }

    private static void putPlaces(Edges e) {
        e.sentence(9, "Byte i of a TEXT is v .. BAD; NOTHING; BEYOND.");
        e.begin(() -> texts(1, 0, 5));
        e.in("put(2, v, 65)", (x, i) -> x.put(2, i, 65), i -> 1032, 0, 1, 3, 4);
        e.allFind("put(2, v, 65)", (x, i) -> x.put(2, i, 65), Edges.BEYOND, -1, 5, 6, LEAST, MOST);
        e.in("put(0, v, 65) of one", (x, i) -> x.put(0, i, 65), i -> 1032, 0);
        e.allFind("put(0, v, 65) of one", (x, i) -> x.put(0, i, 65), Edges.BEYOND, -1, 1);
        e.allFind("put(1, v, 65) of none", (x, i) -> x.put(1, i, 65), Edges.BEYOND, -1, 0, 1);
        e.allFind("put(v, 0, 65) of a missing one", (x, t) -> x.put(t, 0, 65), Edges.NOTHING, 3);
        e.begin(() -> texts(60, 60, 60, 60));
        e.range("put(v, 0, 65)", (x, t) -> x.put(t, 0, 65), 0, 3, t -> 1032);
        e.in("put(3, v, 65) of 60", (x, i) -> x.put(3, i, 65), i -> 1032, 0, 1, 58, 59);
        e.allFind("put(3, v, 65) of 60", (x, i) -> x.put(3, i, 65), Edges.BEYOND, -1, 60, 61);
    }

    private static void putBytes(Edges e) {
        e.sentence(9, "v, cut to a byte: what it was, and 1000 more.");
        int[][] cuts = {
            {0, 0}, {1, 1}, {126, 126}, {127, 127}, {128, -128}, {129, -127}, {254, -2}, {255, -1}, {256, 0}, {257, 1},
            {-1, -1}, {-127, -127}, {-128, -128}, {-129, 127}, {-130, 126}, {-255, 1}, {-256, 0}, {MOST, -1}, {LEAST, 0},
        };
        e.begin(() -> texts(3));
        for (int[] cut : cuts) {
            e.is("put(0, 1, " + cut[0] + ")", x -> x.put(0, 1, cut[0]), 1032);
            e.is("what put(0, 1, " + cut[0] + ") put", x -> Edges.last(x.put(0, 1, cut[0]), x.put(0, 1, 32)), 1000 + cut[1]);
            e.is("behind put(0, 1, " + cut[0] + ")", x -> Edges.last(x.put(0, 1, cut[0]), x.put(0, 2, 32)), 1032);
            e.is("ahead of put(0, 1, " + cut[0] + ")", x -> Edges.last(x.put(0, 1, cut[0]), x.put(0, 0, 32)), 1032);
        }
    }

    /** Asked of an object that has read the largest HOUSE just before, and that has it. */
    private static void fault(Edges e, String text, int want) {
        NeverTogether x = e.due.house(LARGEST);
        e.due.text(x, 1, text);
        e.is("fault of '" + text + "'", x.fault(1), want);
        if (want == NONE) {
            e.isTrue("house of '" + text + "'", x.house(1) > 0);
        } else {
            e.refused("house of '" + text + "'", x, () -> x.house(1), Edges.STATE);
        }
    }

    private static void blanks(Edges e) {
        e.sentence(10, "blanks (32) ahead, between, behind as many as wanted");
        for (int many : new int[] {0, 1, 2, 20}) {
            String b = " ".repeat(many);
            fault(e, b + "z0c0000", NONE);
            fault(e, "z0" + b + "c0000", NONE);
            fault(e, "z0c0000" + b + "k0000", NONE);
            fault(e, "z0c0000" + b, NONE);
        }
        fault(e, " ".repeat(53) + "z0c0000", NONE);
        fault(e, "z0" + " ".repeat(53) + "c0000", NONE);
        fault(e, "z0c0000" + " ".repeat(53), NONE);
        fault(e, LARGEST + " ".repeat(22), NONE);
        fault(e, " ".repeat(22) + LARGEST, NONE);
        fault(e, " ".repeat(59) + "z", 60);
        fault(e, " ".repeat(59) + "c", 59);
    }

    private static void noBlanksWithin(Edges e) {
        e.sentence(10, "none within items");
        fault(e, "z 0c0000", 1);
        fault(e, "z0c 0000", 3);
        fault(e, "z0c0 000", 4);
        fault(e, "z0c00 00", 5);
        fault(e, "z0c000 0", 6);
        fault(e, "z0 1c0000", 3);
        fault(e, "z0123012 3c0000", 9);
    }

    private static void heatFigures(Edges e) {
        e.sentence(10, "First z (122) and the HEAT of DAYS 0, 1, .. (1 to 7 figures 0 .. 3 ..) .. an eighth DAY: its place");
        fault(e, "yc0000", 0);
        fault(e, "zc0000", 1);
        fault(e, "{0c0000", 0);
        fault(e, "z/c0000", 1);
        fault(e, "z0c0000", NONE);
        fault(e, "z1c0000", NONE);
        fault(e, "z2c0000", NONE);
        fault(e, "z3c0000", NONE);
        fault(e, "z4c0000", 1);
        fault(e, "z9c0000", 1);
        fault(e, "z0/c0000", 2);
        fault(e, "z04c0000", 2);
        String[] figures = {"0", "01", "012", "0123", "01230", "012301", "0123012"};
        for (String heats : figures) {
            fault(e, "z" + heats + "c0000", NONE);
            fault(e, "z" + heats + " c0000", NONE);
            fault(e, "z" + heats + "4c0000", 1 + heats.length());
        }
        for (char eighth : "01234 ".toCharArray()) {
            fault(e, "z0123012" + eighth + "c0000", eighth == ' ' ? NONE : 8);
        }
        fault(e, "z01230120123c0000", 8);
    }

    private static void howManyPieces(Edges e) {
        e.sentence(11, "how many TIMEPIECES (1 to 6)");
        StringBuilder text = new StringBuilder("z0");
        fault(e, text.toString(), 2);
        for (int many = 1; many <= 6; many++) {
            text.append("ckbsmr".charAt(many - 1)).append("0000");
            String house = text.toString();
            fault(e, house, NONE);
            e.begin(() -> {
                NeverTogether x = e.due.house(LARGEST);
                e.due.text(x, 1, house);
                return x;
            });
            e.is("house of " + many, x -> x.house(1), many);
            e.is("count(0) of " + many, x -> Edges.last(x.house(1), x.count(0)), many);
        }
        fault(e, text + "c0000", 32);
        fault(e, text + "  c0000", 34);
        fault(e, text + "c", 32);
        fault(e, text + "0", 32);
        fault(e, text + " ", NONE);
    }

    private static void pieceFigures(Edges e) {
        e.sentence(10, "a letter, the MINUTE (00 .. 59), the RATE and 4 together (0 .. 9), the FLOOR (0 .. 3)");
        for (char letter : "ckbsmr".toCharArray()) {
            fault(e, "z0" + letter + "0000", NONE);
            fault(e, "z0" + Character.toUpperCase(letter) + "0000", 2);
        }
        fault(e, "z0z0000", 2);
        for (String minute : new String[] {"00", "01", "09", "10", "49", "50", "58", "59"}) {
            fault(e, "z0c" + minute + "00", NONE);
        }
        for (String minute : new String[] {"60", "61", "69", "70", "99", "/0", ":0", "-1"}) {
            fault(e, "z0c" + minute + "00", 3);
        }
        for (String minute : new String[] {"0/", "0:", "5/", "5:", "5c"}) {
            fault(e, "z0c" + minute + "00", 4);
        }
        for (char rate : "0123456789".toCharArray()) {
            fault(e, "z0c00" + rate + "0", NONE);
        }
        fault(e, "z0c00/0", 5);
        fault(e, "z0c00:0", 5);
        fault(e, "z0c0000", NONE);
        fault(e, "z0c0001", NONE);
        fault(e, "z0c0002", NONE);
        fault(e, "z0c0003", NONE);
        fault(e, "z0c0004", 6);
        fault(e, "z0c000/", 6);
        fault(e, "z0c0000k5994", 11);
        fault(e, "z0c00000", 7);
    }

    /** In each place of z0c0000 each byte: what can stand there, and what another one is read as. */
    private static void everyByte(Edges e) {
        e.sentence(10, "a letter, a figure that is none such: its place");
        String[] good = {"z", "0123", "ckbsmr", "012345", "0123456789", "0123456789", "0123"};
        for (int place = 0; place < 7; place++) {
            for (int v = 0; v < 256; v++) {
                int due = good[place].indexOf(v) >= 0 ? NONE : place;
                if (v == ' ' && (place == 0 || place == 2)) {
                    due = place + 1;
                }
                if (place == 2 && v >= '0' && v <= '3') {
                    due = 7;
                }
                NeverTogether x = new NeverTogether();
                e.due.text(x, 0, "z0c0000");
                x.put(0, place, v + 256 * (v % 3 - 1));
                e.is("fault of z0c0000 with " + v + " at " + place, x.fault(0), due);
            }
        }
    }

    private static void endsTooEarly(Edges e) {
        e.sentence(10, "the TEXT's size, if its end comes too early, or there are blanks alone");
        for (int size = 0; size < LARGEST.length(); size++) {
            boolean whole = size >= 13 && (size - 8) % 5 == 0;
            fault(e, LARGEST.substring(0, size), whole ? NONE : size);
        }
        fault(e, LARGEST, NONE);
        for (int size : new int[] {0, 1, 2, 59, 60}) {
            fault(e, " ".repeat(size), size);
        }
        fault(e, "z0   ", 5);
        fault(e, "  z0", 4);
        fault(e, "z0" + " ".repeat(58), 60);
        fault(e, "z0c0000 k", 9);
        fault(e, "z0c0000 k ", 9);
    }

    private static NeverTogether fourTexts(Due due) {
        NeverTogether x = new NeverTogether();
        for (int t = 0; t < 4; t++) {
            due.text(x, t, "z0c0000");
        }
        return x;
    }

    private static void faultNumbers(Edges e) {
        e.sentence(10, "A FAULT of a TEXT; NONE: there is none. BAD; NOTHING.");
        e.begin(() -> fourTexts(e.due));
        e.range("fault(v)", (x, t) -> x.fault(t), 0, 3, t -> NONE);
        e.begin(() -> texts(3, 0));
        e.in("fault(v) of 3 and 0 blanks", (x, t) -> x.fault(t), t -> 3 - 3 * t, 0, 1);
        e.allFind("fault(v) of missing ones", (x, t) -> x.fault(t), Edges.NOTHING, 2, 3);
    }

    private static void houseNumbers(Edges e) {
        e.sentence(11, "A HOUSE by a TEXT .. BAD; NOTHING; STATE: a FAULT.");
        e.begin(() -> fourTexts(e.due));
        e.range("house(v)", (x, t) -> x.house(t), 0, 3, t -> 1);
        e.begin(() -> texts(3, 0));
        e.in("house(v) of blanks", (x, t) -> x.house(t), t -> Edges.STATE, 0, 1);
        e.allFind("house(v) of missing ones", (x, t) -> x.house(t), Edges.NOTHING, 2, 3);
    }

    private static void houseAnew(Edges e) {
        e.sentence(11, "(anew: DAY 0, no DEEDS; kept HOUSES go)");
        NeverTogether x = e.due.house("z12 c0050 k1040");
        long atFirst = x.digest();
        x.touch(0, 5);
        x.keep(0);
        Edges.passed(x, 38);
        x.keep(1);
        x.touch(1, -5);
        x.keep(2);
        e.is("40 DEEDS", x.count(2), 40);
        e.is("three kept", x.count(8), 3);
        e.is("house(0) anew", x.house(0), 2);
        e.is("all is as at first", x.digest(), atFirst);
        e.is("the DAY", x.count(1), 0);
        e.is("DEEDS", x.count(2), 0);
        e.is("kept HOUSES", x.count(8), 0);
        for (int k = 0; k < 3; k++) {
            int place = k;
            e.found("on(" + k + ")", x, () -> x.on(place), Edges.NOTHING);
        }
        e.is("not TOUCHED this DAY", x.touch(1, 1), 11);
        e.is("day()", x.day(), 0);
        e.is("by HEAT from DAY 0 on", x.minute(0, 0), 1);
        x.put(0, 5, '9');
        e.is("a TEXT changed behind is not the HOUSE", x.undo(0), 2);
        e.is("all is as at first", x.minute(0, 0), 0);
    }

    private static void houseWithFault(Edges e) {
        e.sentence(11, "STATE: a FAULT.");
        e.begin(() -> {
            NeverTogether x = e.due.house("z12 c0050 b1040");
            e.due.text(x, 1, "z0c0000k");
            x.touch(0, 5);
            x.day();
            x.keep(0);
            return x;
        });
        e.refused("house(1) leaves the other one", x -> x.house(1), Edges.STATE);
        e.is("house(1), then a DAY", x -> Edges.last(x.house(1), x.day(), x.minute(1, 0)), 13);
        e.is("house(1), then what was kept", x -> Edges.last(x.house(1), x.on(0)), 2);
        e.is("house(1), then undone", x -> Edges.last(x.house(1), x.undo(1), x.minute(0, 0)), 5);
    }
}
