/** Promises 32 to 35: late, rates, kinds, from. */
public final class HeardTest {
    private static final int NONE = NeverTogether.NONE;
    private static final int NOTHING = 1, UNLIKE = 3, SIZE = 5;

    public static void main(String[] args) {
        Due due = new Due();
        lateness(due);
        ratesHeard(due);
        kindsHeard(due);
        fromWhere(due);
        refusals(due);
        due.end("HeardTest");
    }

    private static void late(Due due, NeverTogether x, int bits, int once, int... seen) {
        due.row(x, 1, seen);
        due.told("late", x, x.late(1), bits, once);
    }

    private static void lateness(Due due) {
        NeverTogether x = due.house("z0 c0040 c3050 m5840");
        late(due, x, 0, 1, 0, 30, 58);
        late(due, x, 7, 1, 55, 35, 3);
        late(due, x, 7, 0, 54, 35, 3);
        late(due, x, 1, 1, 5, 30, 58);
        late(due, x, 2, 0, 0, 36, 58);
        late(due, x, 4, 0, 0, 30, 4);
        late(due, x, 4, 1, 0, 30, 53);
        due.is("day(): 0 and the CHIME", x.day(), 1);
        late(due, x, 2, 1, 0, 30, 58);
        NeverTogether warm = due.house("z3 b0050 r3050");
        late(due, warm, 0, 1, 0, 30);
        late(due, warm, 3, 1, 4, 28);
        NeverTogether none = new NeverTogether();
        due.refused("late(6): BAD ahead of STATE", none, () -> none.late(6), -1);
        due.refused("late(-1)", none, () -> none.late(-1), -1);
        due.refused("late(0): STATE ahead of NOTHING", none, () -> none.late(0), -4);
        due.found("late(0)", x, () -> x.late(0), NOTHING);
        due.row(x, 0, 60, 0);
        due.found("late(0): SIZE ahead of UNLIKE", x, () -> x.late(0), SIZE);
        due.row(x, 0, 0, 0, 0, 0);
        due.found("late(0) of four", x, () -> x.late(0), SIZE);
        due.row(x, 0, 0, 0, 60);
        due.found("late(0) of 60", x, () -> x.late(0), UNLIKE);
        due.row(x, 0, -1, 0, 0);
        due.found("late(0) of -1", x, () -> x.late(0), UNLIKE);
    }

    private static void rates(Due due, NeverTogether x, int i, int bits, int... heard) {
        due.row(x, 1, heard);
        due.is("rates(" + i + ", 1)", x.rates(i, 1), bits);
    }

    private static void ratesHeard(Due due) {
        NeverTogether x = due.house("z12 c0050 b1040 r2040 s3040 k4040");
        rates(due, x, 0, 1023);
        rates(due, x, 0, 1023, 0, 0);
        rates(due, x, 0, 0, 0, 1);
        rates(due, x, 0, 1 << 6, 1, 2);
        rates(due, x, 0, 1 << 0, 1, 56);
        rates(due, x, 0, 1 << 9, 1, 5);
        rates(due, x, 0, 1 << 9, 1, 5, 2, 10);
        rates(due, x, 0, 0, 1, 5, 2, 11);
        rates(due, x, 0, 1023, 60, 0);
        rates(due, x, 0, 1 << 1 | 1 << 3 | 1 << 5 | 1 << 7 | 1 << 9, 30, 30);
        rates(due, x, 1, 1 << 4, 1, 11);
        rates(due, x, 1, 1 << 3, 2, 11);
        rates(due, x, 2, 1 << 4, 1, 19);
        rates(due, x, 3, 1023, 17, 30);
        rates(due, x, 3, 0, 17, 31);
        rates(due, x, 4, 1 << 5, 1, 41, 0, 40);
        due.is("day()", x.day(), 0);
        rates(due, x, 1, 1 << 4, 1, 13);
    }

    private static void kinds(Due due, NeverTogether x, int i, int bits, int... heard) {
        due.row(x, 1, heard);
        due.is("kinds(" + i + ", 1)", x.kinds(i, 1), bits);
    }

    private static void kindsHeard(Due due) {
        NeverTogether x = due.house("z12 c0050 b1040 r2040 s3050");
        kinds(due, x, 0, 63);
        kinds(due, x, 0, 63, 0, 0);
        kinds(due, x, 0, 1 << 3 | 1 << 5, 1, 0);
        kinds(due, x, 0, 1 | 2 | 16, 1, 1);
        kinds(due, x, 0, 1 << 2, 1, 2);
        kinds(due, x, 0, 1 << 5, 2, 59);
        kinds(due, x, 0, 1 << 5, 1, 0, 2, 59);
        kinds(due, x, 1, 1 | 2 | 8 | 16, 1, 10);
        kinds(due, x, 3, 1 | 2 | 16, 1, 31);
        kinds(due, x, 3, 1 << 3, 60, 30, 1, 30);
        kinds(due, x, 3, 0, 0, 31);
    }

    private static void from(Due due, NeverTogether x, int i, int many, int first, int... heard) {
        due.row(x, 1, heard);
        due.told("from(" + i + ", 1)", x, x.from(i, 1), many, first);
    }

    private static void fromWhere(Due due) {
        NeverTogether x = due.house("z12 c0050 b1040 r2040 s3050");
        from(due, x, 0, 60, 0);
        from(due, x, 0, 1, 59, 1, 0);
        from(due, x, 0, 1, 0, 60, 0);
        from(due, x, 0, 1, 7, 0, 7, 60, 7);
        from(due, x, 0, 0, NONE, 0, 7, 1, 7);
        from(due, x, 1, 1, 57, 2, 0);
        from(due, x, 2, 1, 3, 2, 0);
        from(due, x, 3, 1, 12, 2, 12, 60, 12);
    }

    private static void refusals(Due due) {
        NeverTogether x = due.house("z12 c0050 b1040");
        due.row(x, 1, 61, 0, 0);
        due.row(x, 2, 61, 0);
        due.row(x, 3, -1, 0);
        due.row(x, 4, 0, 0, 0, 60);
        due.row(x, 5, 0, -1);
        for (int what = 0; what < 3; what++) {
            int w = what;
            due.refused("BAD 2", x, () -> heard(x, w, 2, 1), -1);
            due.refused("BAD -1, ahead of NOTHING", x, () -> heard(x, w, -1, 0), -1);
            due.refused("BAD 6", x, () -> heard(x, w, 0, 6), -1);
            due.refused("BAD row -1", x, () -> heard(x, w, 0, -1), -1);
            due.found("NOTHING", x, () -> heard(x, w, 0, 0), NOTHING);
            due.found("SIZE ahead of UNLIKE", x, () -> heard(x, w, 0, 1), SIZE);
            for (int r = 2; r <= 5; r++) {
                int row = r;
                due.found("UNLIKE in " + r, x, () -> heard(x, w, 0, row), UNLIKE);
            }
        }
    }

    private static int heard(NeverTogether x, int what, int i, int r) {
        return what == 0 ? x.rates(i, r) : what == 1 ? x.kinds(i, r) : x.from(i, r);
    }
}
