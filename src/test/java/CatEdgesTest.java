/** The edges of promises 36 and 37, sentence by sentence: a cat. */
public final class CatEdgesTest {
    private static final int NONE = Edges.NONE;

    public static void main(String[] args) {
        Edges e = new Edges();
        catNumbers(e);
        ofNow(e);
        oneTurnEach(e);
        twoTurnsEach(e);
        firstNumbers(e);
        firstMoves(e);
        firstByNone(e);
        whateverWasTouched(e);
        e.end("CatEdgesTest");
    }

    private static void cat(Edges e, String text, int n, int want) {
        e.beginHouse(text);
        e.is("cat(" + n + ") of " + text, x -> x.cat(n), want);
    }

    private static void first(Edges e, String text, int n, int want) {
        e.beginHouse(text);
        e.is("first(" + n + ") of " + text, x -> x.first(n), want);
        e.is("cat(" + n + ") of " + text, x -> x.cat(n), want == NONE ? 0 : 1);
        e.is("nothing is done by it", x -> Edges.last(x.first(n), x.count(2)), 0);
    }

    private static void catNumbers(Edges e) {
        e.sentence(36, "n (0 .. 2) times each .. BAD; STATE: no TIMEPIECES.");
        e.beginHouse("z0 c0040");
        e.range("cat(v)", (x, n) -> x.cat(n), 0, 2, n -> 1);
        e.beginNew();
        for (int n = 0; n <= 2; n++) {
            int times = n;
            e.refused("cat(" + n + ") of none", x -> x.cat(times), Edges.STATE);
        }
    }

    /** Not on the next DAY, nor by the HEAT of this one. */
    private static void ofNow(Edges e) {
        e.sentence(36, "n 0: whether none MEET (now)");
        cat(e, "z0 c0040 c0040", 0, 0);
        cat(e, "z0 c0040 c0140", 0, 1);
        cat(e, "z0 c0140 c0040", 0, 1);
        cat(e, "z3 c0050 c0140", 0, 1);
        cat(e, "z3 c0050 c5940", 0, 1);
        cat(e, "z3 b0040 c0140", 0, 1);
        cat(e, "z3 b0040 c5940", 0, 1);
        cat(e, "z3 b0040 c0340", 0, 1);
        cat(e, "z3 r0040 c5740", 0, 1);
        cat(e, "z3 b0070 r0090 m5800", 0, 0);
        e.beginAfter("z3 b0040 c0340", 1);
        e.is("cat(0) on DAY 1", x -> x.cat(0), 0);
    }

    private static void oneTurnEach(Edges e) {
        e.sentence(36, "By turns she TOUCHES one by 1 or -1, a cat one by 1 or -1 .., she begins; whether none MEET then");
        cat(e, "z0 c0040", 1, 1);
        cat(e, "z0 c0040 c0040", 1, 0);
        cat(e, "z0 c0040 c0140", 1, 1);
        cat(e, "z0 c0040 c0140 c3040", 1, 1);
        cat(e, "z0 c0040 c0040 c3040", 1, 0);
        cat(e, "z0 c0040 c0140 c3040 c3140", 1, 0);
        cat(e, "z0 c0040 c0240 c3040 c3240", 1, 1);
        cat(e, "z0 c5940 c0040 c3040", 1, 1);
        cat(e, "z0 m5940 c0240 c3040", 1, 1);
        cat(e, "z0 m5940 c0140 c3040", 1, 0);
        cat(e, "z0 m5940 c0340 c3040", 1, 1);
        cat(e, "z3 b0040 c0140 c3040", 1, 1);
        cat(e, "z3 b0040 c0040 c3040", 1, 0);
    }

    private static void twoTurnsEach(Edges e) {
        e.sentence(36, "n (0 .. 2) times each");
        cat(e, "z0 c0040", 2, 1);
        cat(e, "z0 c0040 c0040", 2, 0);
        cat(e, "z0 c0040 c0140", 2, 1);
        cat(e, "z0 c0040 c0240", 2, 1);
        cat(e, "z0 c0040 c0140 c3040 c3140", 2, 0);
        // Two pairs at three: the cat goes nearer twice, she goes further off twice.
        cat(e, "z0 c0040 c0340 c3040 c3340", 2, 1);
        // Three pairs together: in two turns she cannot part them all.
        cat(e, "z0 c0040 c0040 c2040 c2040 c4040 c4040", 2, 0);
    }

    private static void firstNumbers(Edges e) {
        e.sentence(37, "BAD: also n 0; STATE.");
        e.beginHouse("z0 c0040");
        e.range("first(v)", (x, n) -> x.first(n), 1, 2, n -> 0);
        e.beginNew();
        e.refused("first(1) of none", x -> x.first(1), Edges.STATE);
        e.refused("first(2) of none", x -> x.first(2), Edges.STATE);
    }

    /** Next to another one, which must not go aside, as it would come next to a third one: but one move is left. */
    private static void firstMoves(Edges e) {
        e.sentence(37, "2 times the TIMEPIECE, and 1 more, if it is -1 (the first by which none MEET)");
        first(e, "z0 c1040 c0940 c0740 c3040 c4040 c5040", 1, 0);
        first(e, "z0 c0940 c1040 c1240 c3040 c4040 c5040", 1, 1);
        first(e, "z0 c0940 c1040 c0740 c3040 c4040 c5040", 1, 2);
        first(e, "z0 c1040 c0940 c1240 c3040 c4040 c5040", 1, 3);
        first(e, "z0 c0940 c0740 c1040 c3040 c4040 c5040", 1, 4);
        first(e, "z0 c1040 c1240 c0940 c3040 c4040 c5040", 1, 5);
        first(e, "z0 c0940 c0740 c3040 c1040 c4040 c5040", 1, 6);
        first(e, "z0 c1040 c1240 c3040 c0940 c4040 c5040", 1, 7);
        first(e, "z0 c0940 c0740 c3040 c4040 c1040 c5040", 1, 8);
        first(e, "z0 c1040 c1240 c3040 c4040 c0940 c5040", 1, 9);
        first(e, "z0 c0940 c0740 c3040 c4040 c5040 c1040", 1, 10);
        first(e, "z0 c1040 c1240 c3040 c4040 c5040 c0940", 1, 11);
        // Over the end of the ring.
        first(e, "z0 c0040 c5940 c5740 c3040", 1, 0);
        first(e, "z0 c5940 c0040 c0240 c3040", 1, 1);
        // Of now: on the next DAY, or by its HEAT, they would be elsewhere.
        first(e, "z3 b0040 c0140 c3040", 1, 1);
        first(e, "z3 b0040 c5940 c3040", 1, 0);
        first(e, "z3 c0050 c0140 c3040", 1, 1);
        first(e, "z3 c0030 c5940 c3040", 1, 0);
        first(e, "z3 c0050 c5940 c3040", 1, 0);
        first(e, "z0 c0040", 1, 0);
        first(e, "z0 c0040", 2, 0);
    }

    private static void firstByNone(Edges e) {
        e.sentence(37, "NONE: by none.");
        for (int n = 1; n <= 2; n++) {
            first(e, "z0 c0040 c0040", n, NONE);
            first(e, "z0 m5840 c0040", n, NONE);
            first(e, "z0 c0040 c0140 c3040 c3140", n, NONE);
            first(e, "z0 c0040 c0240", n, 1);
        }
    }

    private static void whateverWasTouched(Edges e) {
        e.sentence(36, "(any, whatever was TOUCHED)");
        e.begin(() -> {
            NeverTogether x = e.due.house("z0 c0940 c0840 c0740 c3040");
            x.touch(0, 1);
            x.touch(1, 1);
            return x;
        });
        e.is("first(1): 0, TOUCHED, goes from 10 to 11", x -> x.first(1), 0);
        e.is("cat(1)", x -> x.cat(1), 1);
    }
}
