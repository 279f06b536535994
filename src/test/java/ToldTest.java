/** Promises 41 to 47 with ordinary inputs: asked, upper, lower, count, finding, findings, digest. */
public final class ToldTest {
    private static final int NONE = NeverTogether.NONE;

    public static void main(String[] args) {
        Due due = new Due();
        asking(due);
        chancesTold(due);
        counting(due);
        findingsTold(due);
        digests(due);
        due.end("ToldTest");
    }

    private static void asking(Due due) {
        NeverTogether x = new NeverTogether();
        due.is("asked() before", x.asked(), 0);
        due.row(x, 0, 7, 9);
        due.told("lay", x, x.lay(0, 0, 11), 1, 7);
        due.told("at", x, x.at(0, 1), 1, 9);
        due.told("mean", x, x.mean(0), 1, 10);
        due.text(x, 0, "z0 c0142 c0150 m3040");
        due.is("house(0)", x.house(0), 3);
        due.is("house() tells nothing", x.asked(), 10);
        due.told("piece", x, x.piece(0, 3), 1, 2);
        due.told("meets", x, x.meets(0), 1, 3);
        due.told("soon", x, x.soon(), 0, 1);
        due.told("room", x, x.room(0, 9), 2, 20 + 20);
        due.told("stairs", x, x.stairs(0), 0, 2);
        due.told("doomed", x, x.doomed(0), 0, NONE);
        due.told("out", x, x.out(0), 1, 1);
        due.row(x, 1, 1, 3, 30);
        due.told("late", x, x.late(1), 2, 1);
        due.row(x, 2);
        due.told("from", x, x.from(0, 2), 60, 0);
        due.told("at", x, x.at(0, 0), 1, 11);
        due.told("others tell nothing", x, x.minute(0, 1) + x.sounds(0) + x.count(0), 1 + 4 + 3, 11);
        due.told("others tell nothing", x, x.meet(0, 1) + x.often(0, 1, 0) + x.right(0, 1, 0), 2, 11);
        due.told("others tell nothing", x, x.apart(0, 5), 1, 11);
        due.told("others tell nothing", x, x.rates(0, 2) + x.kinds(0, 2), 1023 + 63, 11);
        due.told("others tell nothing", x, x.odds(0, 1, 0, 0) + x.mid(0, 0, 0), 2, 11);
        due.told("others tell nothing", x, x.cat(0), 0, 11);
        due.told("others tell nothing", x, x.touch(0, 1), 2, 11);
        due.told("others tell nothing", x, x.day(), 1, 11);
        due.told("refused tells nothing", x, x.piece(9, 0), -1, 11);
    }

    private static void chancesTold(Due due) {
        NeverTogether x = due.house("z0 c0040 c0140");
        due.is("upper() before", x.upper(), 0);
        due.is("lower() before", x.lower(), 1);
        due.is("mid(0, 5, 3)", x.mid(0, 5, 3), 1);
        due.is("refused", x.mid(0, 61, 3), -1);
        due.is("upper() as it was", x.upper(), 5);
        due.is("lower() as it was", x.lower(), 4);
        due.is("odds(0, 1, 1, 6)", x.odds(0, 1, 1, 6), 1);
        due.is("upper()", x.upper(), 1);
        due.is("lower()", x.lower(), 4);
        due.is("day()", x.day(), 0);
        due.is("upper() stays", x.upper(), 1);
    }

    private static void countsAre(Due due, NeverTogether x, int... counts) {
        for (int what = 0; what < counts.length; what++) {
            due.is("count(" + what + ")", x.count(what), counts[what]);
        }
    }

    private static void counting(Due due) {
        NeverTogether x = due.house("z0 k0040 m0140 b0040 r0140 b2040 s3040");
        countsAre(due, x, 6, 0, 0, 4, 2, 3, 0, 1, 0);
        due.is("row(5, 0)", x.row(5, 0), 0);
        due.is("row(4, 1)", x.row(4, 1), 1);
        due.is("text(3, 0)", x.text(3, 0), 0);
        due.is("day()", x.day(), 4);
        due.is("touch(2, -1)", x.touch(2, -1), 59);
        due.is("keep(1)", x.keep(1), 2);
        countsAre(due, x, 6, 1, 2, 3, 2, 3, 2, 2, 1);
    }

    private static void findingsTold(Due due) {
        NeverTogether x = due.house("z0 c0040");
        due.is("finding() before", x.finding(), 0);
        for (int f = 1; f <= 5; f++) {
            due.is("findings(" + f + ") before", x.findings(f), 0);
        }
        due.row(x, 0);
        due.is("BAD is none", x.row(9, 0), -1);
        due.is("STATE is none", new NeverTogether().day(), -4);
        due.is("finding() still", x.finding(), 0);
        due.is("NOTHING", x.at(1, 0), -3);
        due.is("finding()", x.finding(), 1);
        due.is("BEYOND", x.at(0, 0), -3);
        due.is("finding()", x.finding(), 2);
        due.is("UNLIKE", x.mark(0, 1), -3);
        due.is("finding()", x.finding(), 3);
        due.is("NOUGHT", x.mean(0), -3);
        due.is("finding()", x.finding(), 4);
        due.is("SIZE", x.row(0, -1), -3);
        due.is("finding()", x.finding(), 5);
        due.is("SIZE again", x.late(0), -3);
        due.is("a good call", x.row(0, 1), 1);
        due.is("finding() stays", x.finding(), 5);
        int[] counts = {1, 1, 1, 1, 2};
        for (int f = 1; f <= 5; f++) {
            due.is("findings(" + f + ")", x.findings(f), counts[f - 1]);
        }
    }

    private static long mixed(long... values) {
        long h = 17;
        for (long v : values) {
            h = 31 * h + v;
        }
        return h;
    }

    private static void digests(Due due) {
        NeverTogether x = new NeverTogether();
        due.is("digest() of a new one", x.digest(),
            mixed(0, 0, 0, 0, 0, 0, 0, 0, 0, -1, -1, -1, -1, -1, -1, -1, -1, -1, -1, -1, -1, -1));
        due.row(x, 1, 5, -6);
        due.row(x, 3);
        due.is("text(2, 2)", x.text(2, 2), 2);
        due.is("put(2, 1, 200)", x.put(2, 1, 200), 1032);
        due.is("digest() with ROWS, TEXTS", x.digest(),
            mixed(0, 0, 0, 0, 0, 0, 2, 1, 0, -1, -1, -1, -1, 2, 5, -6, -1, 0, -1, -1, -1, -1, 2, 32, -56, -1));
        due.is("asked() as it was", x.asked(), 0);
        NeverTogether y = due.house("z1 k0151 r0272");
        due.is("text(0, 0)", y.text(0, 0), 0);
        due.is("day()", y.day(), 0);
        due.is("keep(1)", y.keep(1), 1);
        due.is("touch(0, 1)", y.touch(0, 1), 3);
        due.is("digest() of a house", y.digest(),
            mixed(2, 1, 2, 1, 1, 1, 0, 1, 1, 1, 3, 1, 1, 2, 1, 5, 4, 3, 2, 1, 0, -1, 1, -1,
                -1, -1, -1, -1, -1, -1, 0, -1, -1, -1));
        due.is("asked() as it was", y.asked(), 0);
    }
}
