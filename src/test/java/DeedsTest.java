/** Promises 15 to 19 with ordinary inputs: day, touch, undo, keep, on. */
public final class DeedsTest {
    public static void main(String[] args) {
        Due due = new Due();
        days(due);
        touches(due);
        full(due);
        undoing(due);
        keeping(due);
        due.end("DeedsTest");
    }

    private static void minutesAre(Due due, String when, NeverTogether x, int... minutes) {
        for (int i = 0; i < minutes.length; i++) {
            due.is(when + ": MINUTE of " + i, x.minute(i, 0), minutes[i]);
        }
    }

    private static void days(Due due) {
        NeverTogether x = due.house("z13 c5850k0330b1010s2090m3000r5070");
        due.is("day() 0", x.day(), 0);
        minutesAre(due, "DAY 1", x, 59, 2, 8, 20, 26, 52);
        due.is("day() 1", x.day(), 0);
        minutesAre(due, "DAY 2", x, 0, 1, 8, 20, 22, 52);
        due.is("day() 2: k at 0, c at 1 MEET; m at 18 for three and s at 20 MEET", x.day(), 2);
        minutesAre(due, "DAY 3", x, 1, 0, 6, 20, 18, 54);
        due.is("the DAY", x.count(1), 3);
        due.is("DEEDS", x.count(2), 3);
    }

    private static void touches(Due due) {
        NeverTogether x = due.house("z0 c0140s5840");
        due.is("touch(0, -5)", x.touch(0, -5), 56);
        due.is("touch(1, 5): a STOPPED one", x.touch(1, 5), 3);
        due.is("DEEDS", x.count(2), 2);
        due.is("day()", x.day(), 0);
        due.is("touch(0, 1) the next DAY", x.touch(0, 1), 57);
    }

    private static void full(Due due) {
        NeverTogether x = due.house("z0 c0040c3040");
        for (int d = 0; d < 39; d++) {
            due.is("day() " + d, x.day(), 0);
        }
        due.is("touch(0, 1): the fortieth DEED", x.touch(0, 1), 1);
        due.is("undo(39)", x.undo(39), 1);
        due.is("day() again", x.day(), 0);
        due.is("DEEDS", x.count(2), 40);
        due.is("the DAY", x.count(1), 40);
    }

    private static void undoing(Due due) {
        NeverTogether x = due.house(Due.ALL_KINDS);
        long atFirst = x.digest();
        due.is("undo(0) of no DEEDS", x.undo(0), 0);
        due.is("touch(0, 5)", x.touch(0, 5), 5);
        long first = x.digest();
        due.is("day(): c at 6, m at 5 for three", x.day(), 1);
        long second = x.digest();
        due.is("touch(0, 1)", x.touch(0, 1), 7);
        due.is("touch(2, -1)", x.touch(2, -1), 21);
        due.is("day()", x.day(), x.count(3));
        due.is("undo(5): none", x.undo(5), 0);
        due.is("undo(2)", x.undo(2), 3);
        due.is("as it was", x.digest(), second);
        due.is("undo(1): the DAY", x.undo(1), 1);
        due.is("as it was", x.digest(), first);
        due.is("undo(0)", x.undo(0), 1);
        due.is("as at first", x.digest(), atFirst);
        due.is("touch(0, 1) again", x.touch(0, 1), 1);
        NeverTogether none = new NeverTogether();
        due.is("undo(0) without TIMEPIECES", none.undo(0), 0);
    }

    private static void keeping(Due due) {
        NeverTogether x = due.house(Due.ALL_KINDS);
        due.is("keep(2)", x.keep(2), 0);
        due.is("day()", x.day(), 0);
        due.is("touch(3, 2)", x.touch(3, 2), 32);
        due.is("keep(0)", x.keep(0), 2);
        due.is("kept HOUSES", x.count(8), 2);
        long kept = x.digest();
        due.is("day()", x.day(), x.count(3));
        due.is("undo(0)", x.undo(0), 3);
        due.is("touch(5, 1)", x.touch(5, 1), 59);
        due.is("on(0)", x.on(0), 2);
        due.is("as it was kept", x.digest(), kept);
        due.is("undo(1) of what was kept", x.undo(1), 1);
        due.is("the DAY", x.count(1), 1);
        due.is("on(0) again", x.on(0), 2);
        due.is("as it was kept", x.digest(), kept);
        due.is("on(2)", x.on(2), 0);
        minutesAre(due, "on(2)", x, 0, 10, 20, 30, 2, 58);
        due.is("touch(4, 3)", x.touch(4, 3), 5);
        due.is("keep(1): a TOUCH comes first", x.keep(1), 1);
        due.is("undo(0)", x.undo(0), 1);
        due.is("day()", x.day(), 0);
        due.is("on(1)", x.on(1), 1);
        minutesAre(due, "on(1)", x, 0, 10, 20, 30, 5, 58);
        due.is("undo(0)", x.undo(0), 1);
        due.is("keep(0) over the kept one", x.keep(0), 0);
        due.is("on(0)", x.on(0), 0);
    }
}
