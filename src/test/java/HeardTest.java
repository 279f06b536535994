/** Promises 32 to 35 with ordinary inputs: late, rates, kinds, from. */
public final class HeardTest {
    private static final int NONE = NeverTogether.NONE;

    public static void main(String[] args) {
        Due due = new Due();
        lateness(due);
        ratesHeard(due);
        kindsHeard(due);
        fromWhere(due);
        due.end("HeardTest");
    }

    private static void late(Due due, NeverTogether x, int bits, int once, int... seen) {
        due.row(x, 1, seen);
        due.told("late", x, x.late(1), bits, once);
    }

    private static void lateness(Due due) {
        NeverTogether x = due.house("z0 c0040 c3050 m5840");
        late(due, x, 0, 1, 0, 30, 58);
        late(due, x, 7, 1, 55, 35, 3);
        late(due, x, 7, 0, 54, 35, 3);
        late(due, x, 1, 1, 5, 30, 58);
        late(due, x, 2, 0, 0, 36, 58);
        late(due, x, 4, 0, 0, 30, 4);
        late(due, x, 4, 1, 0, 30, 53);
        due.is("day(): 0 and the CHIME", x.day(), 1);
        late(due, x, 2, 1, 0, 30, 58);
        NeverTogether warm = due.house("z3 b0050 r3050");
        late(due, warm, 0, 1, 0, 30);
        late(due, warm, 3, 1, 4, 28);
    }

    private static void rates(Due due, NeverTogether x, int i, int bits, int... heard) {
        due.row(x, 1, heard);
        due.is("rates(" + i + ", 1)", x.rates(i, 1), bits);
    }

    private static void ratesHeard(Due due) {
        NeverTogether x = due.house("z12 c0050 b1040 r2040 s3040 k4040");
        rates(due, x, 0, 1023);
        rates(due, x, 0, 1023, 0, 0);
        rates(due, x, 0, 0, 0, 1);
        rates(due, x, 0, 1 << 6, 1, 2);
        rates(due, x, 0, 1 << 0, 1, 56);
        rates(due, x, 0, 1 << 9, 1, 5);
        rates(due, x, 0, 1 << 9, 1, 5, 2, 10);
        rates(due, x, 0, 0, 1, 5, 2, 11);
        rates(due, x, 0, 1023, 60, 0);
        rates(due, x, 0, 1 << 1 | 1 << 3 | 1 << 5 | 1 << 7 | 1 << 9, 30, 30);
        rates(due, x, 1, 1 << 4, 1, 11);
        rates(due, x, 1, 1 << 3, 2, 11);
        rates(due, x, 2, 1 << 4, 1, 19);
        rates(due, x, 3, 1023, 17, 30);
        rates(due, x, 3, 0, 17, 31);
        rates(due, x, 4, 1 << 5, 1, 41, 0, 40);
        due.is("day()", x.day(), 0);
        rates(due, x, 1, 1 << 4, 1, 13);
    }

    private static void kinds(Due due, NeverTogether x, int i, int bits, int... heard) {
        due.row(x, 1, heard);
        due.is("kinds(" + i + ", 1)", x.kinds(i, 1), bits);
    }

    private static void kindsHeard(Due due) {
        NeverTogether x = due.house("z12 c0050 b1040 r2040 s3050");
        kinds(due, x, 0, 63);
        kinds(due, x, 0, 63, 0, 0);
        kinds(due, x, 0, 1 << 3 | 1 << 5, 1, 0);
        kinds(due, x, 0, 1 | 2 | 16, 1, 1);
        kinds(due, x, 0, 1 << 2, 1, 2);
        kinds(due, x, 0, 1 << 5, 2, 59);
        kinds(due, x, 0, 1 << 5, 1, 0, 2, 59);
        kinds(due, x, 1, 1 | 2 | 8 | 16, 1, 10);
        kinds(due, x, 3, 1 | 2 | 16, 1, 31);
        kinds(due, x, 3, 1 << 3, 60, 30, 1, 30);
        kinds(due, x, 3, 0, 0, 31);
    }

    private static void from(Due due, NeverTogether x, int i, int many, int first, int... heard) {
        due.row(x, 1, heard);
        due.told("from(" + i + ", 1)", x, x.from(i, 1), many, first);
    }

    private static void fromWhere(Due due) {
        NeverTogether x = due.house("z12 c0050 b1040 r2040 s3050");
        from(due, x, 0, 60, 0);
        from(due, x, 0, 1, 59, 1, 0);
        from(due, x, 0, 1, 0, 60, 0);
        from(due, x, 0, 1, 7, 0, 7, 60, 7);
        from(due, x, 0, 0, NONE, 0, 7, 1, 7);
        from(due, x, 1, 1, 57, 2, 0);
        from(due, x, 2, 1, 3, 2, 0);
        from(due, x, 3, 1, 12, 2, 12, 60, 12);
    }
}
