/** Promises 36 and 37 with ordinary inputs: cat, first. */
public final class CatTest {
    private static final int NONE = NeverTogether.NONE;

    public static void main(String[] args) {
        Due due = new Due();
        endings(due);
        moves(due);
        due.end("CatTest");
    }

    private static void play(Due due, String text, int now, int one, int firstOfOne, int two, int firstOfTwo) {
        NeverTogether x = due.house(text);
        long before = x.digest();
        due.is("cat(0) of " + text, x.cat(0), now);
        due.is("cat(1) of " + text, x.cat(1), one);
        due.is("first(1) of " + text, x.first(1), firstOfOne);
        due.is("cat(2) of " + text, x.cat(2), two);
        due.is("first(2) of " + text, x.first(2), firstOfTwo);
        due.is("nothing is done by it", x.digest(), before);
    }

    private static void endings(Due due) {
        play(due, "z0 c0040", 1, 1, 0, 1, 0);
        play(due, "z0 c0040 c3040", 1, 1, 0, 1, 0);
        // Together: she parts them by 1, the cat brings them together.
        play(due, "z0 c0040 c0040", 0, 0, NONE, 0, NONE);
        // Next to one another: she brings them together, so that the cat can but part them.
        play(due, "z0 c0040 c0140", 1, 1, 0, 1, 0);
        play(due, "z0 c0140 c0040", 1, 1, 0, 1, 0);
        // Two apart: the first move, 0 by 1, leaves 1 between: the cat closes up.
        play(due, "z0 c0040 c0240", 1, 1, 1, 1, 1);
        // A cuckoo ahead of the other one strikes at 1, too.
        play(due, "z0 k0040 c0140", 0, 0, NONE, 0, NONE);
        play(due, "z0 k0040 c0240", 1, 1, 1, 1, 1);
        play(due, "z0 c0040 k0140", 1, 1, 1, 1, 1);
        // Over the end of the ring.
        play(due, "z0 m5840 c0140", 1, 1, 1, 1, 1);
        play(due, "z0 m5840 c0040", 0, 0, NONE, 0, NONE);
    }

    private static void moves(Due due) {
        // With a third one far off the cat need not part two that are together: she must part them further.
        play(due, "z0 c3040 c0140 c0040", 1, 1, 2, 1, 2);
        play(due, "z0 c3040 c0040 c0140", 1, 1, 3, 1, 3);
        // None of it is of other DAYS: these would be together on the next one.
        play(due, "z3 b0090 r1640 c4040", 1, 1, 0, 1, 0);
        play(due, "z3 b0740 r1240 c4040", 1, 1, 0, 1, 0);
        play(due, "z3 b0740 r1040 c4040", 1, 1, 0, 1, 0);
        // Two pairs next to one another: she parts one, the cat closes up the other.
        play(due, "z0 c0040 c0140 c2040 c2140", 1, 0, NONE, 0, NONE);
        // Two pairs, two from one another: she must not close up either.
        play(due, "z0 c0040 c0240 c2040 c2240", 1, 1, 1, 1, 1);
        play(due, "z0 c0040 c0240 c2040 c2240 c4040 c4240", 1, 1, 1, 1, 1);
        play(due, "z0 c0040 c0340 c2040 c2340 c4040 c4340", 1, 1, 0, 1, 0);
        // One pair of the last ones next to one another: any other move is too late.
        play(due, "z0 c3040 c4040 c5040 c1040 c0040 c0140", 1, 1, 9, 1, 9);
        play(due, "z0 c3040 c4040 c5040 c1040 c0140 c0040", 1, 1, 8, 1, 8);
        NeverTogether x = due.house("z0 c0040 c0140");
        due.is("touch(0, -1)", x.touch(0, -1), 59);
        due.is("whatever was TOUCHED: 0 by 1 would leave one between", x.first(1), 1);
        due.is("touch(1, 5)", x.touch(1, 5), 6);
        due.is("far enough for any move", x.first(1), 0);
        due.is("far enough for any move", x.first(2), 0);
    }
}
