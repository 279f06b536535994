/** The edges of promises 20 to 27, sentence by sentence: when who meets whom. */
public final class MeetingEdgesTest {
    private static final int NONE = Edges.NONE;

    public static void main(String[] args) {
        Edges e = new Edges();
        minuteNumbers(e);
        minutesInARing(e);
        meetNumbers(e);
        firstMeetings(e);
        meetsNumbers(e);
        whoIsInAPair(e);
        soonest(e);
        soonTellsTheLeast(e);
        soonNone(e);
        oftenNumbers(e);
        oftenOnDays(e);
        soundsNumbers(e);
        howManySound(e);
        roomNumbers(e);
        roomInARing(e);
        roomNone(e);
        rightNumbers(e);
        rightOnDays(e);
        e.end("MeetingEdgesTest");
    }

    private static void minuteNumbers(Edges e) {
        e.sentence(20, "The MINUTE of a TIMEPIECE (n 0 .. 420 DAYS from now). BAD.");
        e.beginHouse("z0 c0050 c1040 c2040 c3040 c4040 c5040");
        e.range("minute(0, v)", (x, n) -> x.minute(0, n), 0, 420, n -> n % 60);
        e.range("minute(v, 0) of six", (x, i) -> x.minute(i, 0), 0, 5, i -> 10 * i);
        e.range("minute(v, 420) of six", (x, i) -> x.minute(i, 420), 0, 5, i -> 10 * i);
        e.beginHouse("z0 c0740");
        e.range("minute(v, 0) of one", (x, i) -> x.minute(i, 0), 0, 0, i -> 7);
        e.beginNew();
        e.bad("minute(v, 0) of none", (x, i) -> x.minute(i, 0), -1, 0, 1);
    }

    private static void minutesInARing(Edges e) {
        e.sentence(0, "MINUTES are 0 to 59, in a ring (behind 59: 0).");
        e.beginHouse("z0 c5850");
        e.in("from 58 by 1", (x, n) -> x.minute(0, n), n -> (58 + n) % 60, 0, 1, 2, 3, 61, 62);
        e.beginHouse("z0 c0130");
        e.in("from 1 by -1", (x, n) -> x.minute(0, n), n -> (421 - n) % 60, 0, 1, 2, 3, 61, 62);
        e.beginHouse("z3 b5890");
        e.in("from 58 by 8", (x, n) -> x.minute(0, n), n -> (58 + 8 * n) % 60, 0, 1, 419, 420);
        e.beginHouse("z3 r0100");
        e.in("from 1 by -7", (x, n) -> x.minute(0, n), n -> Edges.ring(1 - 7 * n), 0, 1, 419, 420);
        e.sentence(0, "What is told of n DAYS from now is so, when n DAYS have passed, nothing else being done (n 0: now).");
        for (int n = 0; n <= 40; n++) {
            NeverTogether x = Edges.passed(e.due.house("z0123321 c1050 b2040 r3030 s4090 k5000 m0060"), n);
            NeverTogether ahead = Edges.passed(e.due.house("z0123321 c1050 b2040 r3030 s4090 k5000 m0060"), n / 2);
            for (int i = 0; i < 6; i++) {
                e.is("minute(" + i + ", 0) on DAY " + n, x.minute(i, 0), ahead.minute(i, n - n / 2));
            }
            e.told("meets on DAY " + n, x, x.meets(0), ahead.meets(n - n / 2), ahead.asked());
            e.is("sounds on DAY " + n, x.sounds(0), ahead.sounds(n - n / 2));
            e.told("room on DAY " + n, x, x.room(0, 3), ahead.room(n - n / 2, 3), ahead.asked());
        }
    }

    private static void meetNumbers(Edges e) {
        e.sentence(21, "In how many DAYS two first MEET .. BAD: also the same.");
        e.beginHouse("z0 c0040 c0040 c0040 c0040 c0040 c0040");
        e.in("meet(v, 2)", (x, i) -> x.meet(i, 2), i -> 0, 0, 1, 3, 4, 5);
        e.bad("meet(v, 2)", (x, i) -> x.meet(i, 2), 2, -1, 6, Edges.LEAST, Edges.MOST);
        e.in("meet(2, v)", (x, j) -> x.meet(2, j), j -> 0, 0, 1, 3, 4, 5);
        e.bad("meet(2, v)", (x, j) -> x.meet(2, j), 2, -1, 6, Edges.LEAST, Edges.MOST);
        e.bad("meet(v, v)", (x, i) -> x.meet(i, i), -1, 0, 5, 6);
        e.beginHouse("z0 c0040");
        e.bad("meet(0, v) of one", (x, j) -> x.meet(0, j), -1, 0, 1);
        e.beginNew();
        e.bad("meet(0, v) of none", (x, j) -> x.meet(0, j), -1, 0, 1);
    }

    /** 413 is the latest: behind 60 rounds of HEAT (of 7 DAYS at most) all is as it was. */
    private static void firstMeetings(Edges e) {
        e.sentence(21, "In how many DAYS (0 .. 420) two first MEET. NONE: not in 420.");
        String[] texts = {"z0 s0040 c0050", "z0 s0040 c5950", "z0 s0040 c5850", "z0 s0040 c0150", "z0000001 b0040 c5940",
            "z0000001 b0040 c5840", "z0 s0040 c0160", "z0 c0040 c0140", "z0000002 b0040 c0140", "z0 c0050 c0150"};
        int[] days = {0, 1, 2, 59, 413, 406, NONE, NONE, NONE, NONE};
        for (int k = 0; k < texts.length; k++) {
            e.beginHouse(texts[k]);
            e.is("meet(0, 1) of " + texts[k], x -> x.meet(0, 1), days[k]);
            e.is("meet(1, 0) of " + texts[k], x -> x.meet(1, 0), days[k]);
        }
    }

    private static void meetsNumbers(Edges e) {
        e.sentence(22, "How many pairs MEET (n 0 .. 420 DAYS from now) .. BAD.");
        e.beginHouse("z0 s0040 c0050");
        e.range("meets(v)", (x, n) -> x.meets(n), 0, 420, n -> n % 60 == 0 ? 1 : 0);
        e.in("meets(v)", (x, n) -> x.meets(n), n -> n % 60 == 0 ? 1 : 0, 59, 60, 61, 359, 360, 361);
        e.beginNew();
        e.range("meets(v) of none", (x, n) -> x.meets(n), 0, 420, n -> 0);
    }

    private static void whoIsInAPair(Edges e) {
        e.sentence(22, "How many pairs MEET; who is in one by asked() (bits).");
        String[] texts = {"z0 c0040", "z0 c0040 c0140", "z0 c0040 c0040", "z0 c0040 c1040 c2040 c3040 c4040 c0040",
            "z0 c0040 c1040 c2040 c3040 c0140 c0140", "z0 c0040 c0040 c0040", "z0 c0040 k0040 c0140",
            "z0 c0040 c0040 c0040 c0040 c0040 c0040"};
        int[] pairs = {0, 0, 1, 1, 1, 3, 2, 15};
        int[] who = {0, 0, 3, 33, 48, 7, 7, 63};
        for (int k = 0; k < texts.length; k++) {
            e.beginHouse(texts[k]);
            e.tells("meets(0) of " + texts[k], x -> x.meets(0), pairs[k], who[k]);
            e.tells("meets(420) of " + texts[k], x -> x.meets(420), pairs[k], who[k]);
            e.is("count(3) of " + texts[k], x -> x.count(3), pairs[k]);
        }
        e.beginNew();
        e.tells("meets(0) of none", x -> x.meets(0), 0, 0);
    }

    private static void soonest(Edges e) {
        e.sentence(23, "In how many DAYS (0 .. 420) some two first MEET");
        String[] texts = {"z0 s0040 c0050", "z0 s0040 c5950", "z0 s0040 c5850", "z0 s0040 c0150", "z0000001 b0040 c5940"};
        int[] days = {0, 1, 2, 59, 413};
        for (int k = 0; k < texts.length; k++) {
            e.beginHouse(texts[k]);
            e.tells("soon() of " + texts[k], x -> x.soon(), days[k], 1);
        }
        e.beginHouse("z0 s0040 c5750 s3040 c2850");
        e.tells("soon(): 2 with 3 a DAY ahead of 0 with 1", x -> x.soon(), 2, 15);
        e.beginHouse("z0 s0040 c5850 s3040 c2850");
        e.tells("soon(): both pairs on DAY 2", x -> x.soon(), 2, 1);
    }

    private static void soonTellsTheLeast(Edges e) {
        e.sentence(23, "these by asked() (6 times the lesser number, and the other one; the least)");
        for (int i = 0; i < 6; i++) {
            for (int j = i + 1; j < 6; j++) {
                StringBuilder text = new StringBuilder("z0");
                for (int k = 0; k < 6; k++) {
                    text.append('c').append(k == i || k == j ? 5 : k % 5).append(k == i || k == j ? 9 : k).append("40");
                }
                e.beginHouse(text.toString());
                e.tells("soon() of " + text, x -> x.soon(), 0, 6 * i + j);
            }
        }
        e.beginHouse("z0 c1040 c0040 c2040 c0040 c2040 c1040");
        e.tells("soon(): 0 with 5 ahead of 1 with 3, 2 with 4", x -> x.soon(), 0, 5);
        e.beginHouse("z0 c1040 c0040 c2040 c2040 c0040 c3040");
        e.tells("soon(): 1 with 4 ahead of 2 with 3", x -> x.soon(), 0, 10);
        e.beginHouse("z0 c1040 c1150 c0040 c0040");
        e.tells("soon(): the sooner ahead of the lesser", x -> x.soon(), 0, 15);
    }

    private static void soonNone(Edges e) {
        e.sentence(23, "NONE: none do.");
        e.beginNew();
        e.refused("soon() of none", x -> x.soon(), NONE);
        e.beginHouse("z0 c0050");
        e.refused("soon() of one", x -> x.soon(), NONE);
        e.begin(() -> {
            NeverTogether x = e.due.house("z0 c0050 c0150 c0250");
            x.piece(2, 1);
            return x;
        });
        e.tells("soon() of three that never MEET tells nothing", x -> x.soon(), NONE, 2);
    }

    private static void oftenNumbers(Edges e) {
        e.sentence(24, "On how many of DAYS 0 .. n from now two MEET. BAD: also the same.");
        e.beginHouse("z0 c0040 c0040 c0040 c0040 c0040 c0040");
        e.range("often(0, 1, v)", (x, n) -> x.often(0, 1, n), 0, 420, n -> n + 1);
        e.in("often(v, 2, 3)", (x, i) -> x.often(i, 2, 3), i -> 4, 0, 1, 3, 4, 5);
        e.bad("often(v, 2, 3)", (x, i) -> x.often(i, 2, 3), 2, -1, 6, Edges.LEAST, Edges.MOST);
        e.in("often(2, v, 3)", (x, j) -> x.often(2, j, 3), j -> 4, 0, 1, 3, 4, 5);
        e.bad("often(2, v, 3)", (x, j) -> x.often(2, j, 3), 2, -1, 6, Edges.LEAST, Edges.MOST);
        e.bad("often(v, v, 0)", (x, i) -> x.often(i, i, 0), -1, 0, 5, 6);
        e.beginNew();
        e.bad("often(0, v, 0) of none", (x, j) -> x.often(0, j, 0), -1, 0, 1);
    }

    private static void oftenOnDays(Edges e) {
        e.sentence(24, "On how many of DAYS 0 .. n from now two MEET.");
        e.beginHouse("z0 s0040 c0050");
        e.in("often(0, 1, v): on DAYS 0, 60, .. 420", (x, n) -> x.often(0, 1, n), n -> n / 60 + 1,
            0, 1, 59, 60, 61, 359, 360, 361, 419, 420);
        e.beginHouse("z0 s0040 c5950");
        e.in("often(0, 1, v): on DAYS 1, 61, .. 361", (x, n) -> x.often(0, 1, n), n -> (n + 59) / 60,
            0, 1, 2, 60, 61, 62, 360, 361, 362, 419, 420);
        e.beginHouse("z0 c0040 c0140");
        e.in("often(0, 1, v): never", (x, n) -> x.often(0, 1, n), n -> 0, 0, 1, 419, 420);
    }

    private static void soundsNumbers(Edges e) {
        e.sentence(25, "In how many MINUTES some TIMEPIECE STRIKES (n 0 .. 420 DAYS from now). BAD.");
        e.beginHouse("z0 s0040 c0050");
        e.range("sounds(v)", (x, n) -> x.sounds(n), 0, 420, n -> n % 60 == 0 ? 1 : 2);
        e.beginNew();
        e.range("sounds(v) of none", (x, n) -> x.sounds(n), 0, 420, n -> 0);
    }

    private static void howManySound(Edges e) {
        e.sentence(25, "In how many MINUTES some TIMEPIECE STRIKES");
        String[] texts = {"z0 c5940", "z0 k5940", "z0 m5940", "z0 m5840", "z0 m0040m0340m0640m0940m1240m1540",
            "z0 m0040m0240m0440m0640m0840m1040", "z0 m0040m0040m0040m0040m0040m0040"};
        int[] sounds = {1, 2, 3, 3, 18, 13, 3};
        for (int k = 0; k < texts.length; k++) {
            e.beginHouse(texts[k]);
            e.is("sounds(0) of " + texts[k], x -> x.sounds(0), sounds[k]);
            e.is("sounds(420) of " + texts[k], x -> x.sounds(420), sounds[k]);
        }
    }

    private static void roomNumbers(Edges e) {
        e.sentence(26, "The first MINUTE from which on w (1 .. 9) MINUTES are silent; how many such there are by asked() .. BAD.");
        e.beginHouse("z0 c0050");
        e.range("room(v, 1)", (x, n) -> x.room(n, 1), 0, 420, n -> n % 60 == 0 ? 1 : 0);
        e.range("room(0, v)", (x, w) -> x.room(0, w), 1, 9, w -> 1);
        for (int w = 1; w <= 9; w++) {
            int wide = w;
            e.tells("room(0, " + w + ")", x -> x.room(0, wide), 1, 60 - w);
            e.tells("room(59, " + w + ")", x -> x.room(59, wide), 0, 60 - w);
            e.tells("room(" + w + ", " + w + ")", x -> x.room(wide, wide), 0, 60 - w);
            e.tells("room(" + (w - 1) + ", " + w + ")", x -> x.room(wide - 1, wide), wide, 60 - w);
        }
        e.beginNew();
        e.range("room(v, 9) of none", (x, n) -> x.room(n, 9), 0, 420, n -> 0);
        e.tells("room(0, 1) of none", x -> x.room(0, 1), 0, 60);
    }

    /** Silent from 46 on over the end of the ring up to 2 (17 MINUTES), and for 5 between each two. */
    private static void roomInARing(Edges e) {
        e.sentence(26, "from which on w MINUTES are silent (in a ring)");
        e.beginHouse("z0 m0340 m1140 m1940 m2740 m3540 m4340");
        int[] many = {42, 36, 30, 24, 18, 12, 11, 10, 9};
        for (int w = 1; w <= 9; w++) {
            int wide = w;
            int first = w <= 3 ? 0 : w <= 5 ? 6 : 46;
            e.tells("room(0, " + w + ")", x -> x.room(0, wide), first, many[w - 1]);
        }
        e.beginHouse("z0 m0040 k5840 m1040 m2040 m3040 m4040");
        e.tells("room(0, 9): 43 .. 57 alone", x -> x.room(0, 9), 43, 7);
        e.beginHouse("z0 c0040 m1040 m2040 m3040 m4040 m5040");
        e.tells("room(0, 9): 1 .. 9 alone, just nine", x -> x.room(0, 9), 1, 1);
        e.beginHouse("z0 c5940 m0940 m1940 m2940 m3940 m4940");
        e.tells("room(0, 9): 0 .. 8 alone, just nine", x -> x.room(0, 9), 0, 1);
        e.beginHouse("z0 c0840 m1840 m2840 m3840 m4840 m5640");
        e.tells("room(0, 9): 9 .. 17 and 59 .. 7", x -> x.room(0, 9), 9, 2);
    }

    private static void roomNone(Edges e) {
        e.sentence(26, "NONE: none (asked() 0).");
        e.beginHouse("z0 m0040 m1040 m2040 m3040 m4040 m5040");
        e.tells("room(0, 7): seven between each two", x -> x.room(0, 7), 3, 6);
        e.tells("room(0, 8)", x -> x.room(0, 8), NONE, 0);
        e.tells("room(0, 9)", x -> x.room(0, 9), NONE, 0);
        e.tells("room(0, 8) behind what told 3", x -> Edges.last(x.piece(0, 4), x.room(0, 8)), NONE, 0);
        e.tells("room(420, 8)", x -> x.room(420, 8), NONE, 0);
    }

    private static void rightNumbers(Edges e) {
        e.sentence(27, "On how many of DAYS 0 .. n from now a TIMEPIECE is at a MINUTE. BAD.");
        e.beginHouse("z0 s0040 c0050 s1040 s1040 s1040 s5940");
        e.range("right(0, 0, v)", (x, n) -> x.right(0, 0, n), 0, 420, n -> n + 1);
        e.range("right(1, v, 59)", (x, minute) -> x.right(1, minute, 59), 0, 59, minute -> 1);
        e.range("right(5, v, 0)", (x, minute) -> x.right(5, minute, 0), 0, 59, minute -> minute == 59 ? 1 : 0);
        e.range("right(v, 59, 0)", (x, i) -> x.right(i, 59, 0), 0, 5, i -> i == 5 ? 1 : 0);
        e.beginNew();
        e.bad("right(v, 0, 0) of none", (x, i) -> x.right(i, 0, 0), -1, 0, 1);
    }

    private static void rightOnDays(Edges e) {
        e.sentence(27, "On how many of DAYS 0 .. n from now a TIMEPIECE is at a MINUTE.");
        e.beginHouse("z0 c0050 m0050");
        e.in("right(0, 0, v): on DAYS 0, 60, ..", (x, n) -> x.right(0, 0, n), n -> n / 60 + 1, 0, 1, 59, 60, 61, 419, 420);
        e.in("right(0, 1, v): on DAYS 1, 61, ..", (x, n) -> x.right(0, 1, n), n -> (n + 59) / 60, 0, 1, 2, 60, 61, 420);
        e.in("right(0, 59, v): on DAYS 59, 119, ..", (x, n) -> x.right(0, 59, n), n -> (n + 1) / 60, 0, 58, 59, 60, 118, 119);
        e.in("right(1, 2, v): its first MINUTE alone", (x, n) -> x.right(1, 2, n), n -> n < 2 ? 0 : 1, 0, 1, 2, 3);
    }
}
