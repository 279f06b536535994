import java.util.function.ToIntFunction;

/** The edges of promises 41 and 44 to 47, and of an object's 512 calls, sentence by sentence: what is told. */
public final class ToldEdgesTest {
    private static final int NONE = Edges.NONE;
    private static final String THREE = "z0 c0142 c0150 m3040";

    public static void main(String[] args) {
        Edges e = new Edges();
        askedBefore(e);
        askedOfTwelve(e);
        askedBehindRefused(e);
        askedBehindNone(e);
        askedBehindOthers(e);
        countNumbers(e);
        countOfHouses(e);
        countOfRows(e);
        countOfKept(e);
        findingBefore(e);
        findingsNumbers(e);
        findingStays(e);
        digests(e);
        untilTheLastCall(e);
        e.end("ToldEdgesTest");
    }

    /** A house of three, ROWS 0 (7, 9), 1 (MINUTES of all), 2 (nothing heard), asked() being 9. */
    private static NeverTogether house(Due due) {
        NeverTogether x = due.house(THREE);
        due.row(x, 0, 7, 9);
        due.row(x, 1, 1, 3, 30);
        due.row(x, 2);
        x.at(0, 1);
        return x;
    }

    private static void askedBefore(Edges e) {
        e.sentence(41, "0 before");
        e.beginNew();
        e.tells("a new one", x -> 1, 1, 0);
        e.tells("behind refused ones", x -> Edges.last(x.at(0, 0), x.lay(0, 0, 1), x.mean(0), x.piece(0, 0), x.meets(-1),
            x.room(0, 0), x.stairs(0), x.doomed(-1), x.out(61), x.late(0), x.from(0, 0)), -1, 0);
        e.tells("behind soon() that was NONE", x -> x.soon(), NONE, 0);
    }

    private static void askedOfTwelve(Edges e) {
        e.sentence(41, "What the latest lay(), at(), mean(), piece(), meets(), soon(), room(), stairs(), doomed(), out(), late(), "
            + "from() .. told");
        e.begin(() -> house(e.due));
        e.tells("lay", x -> x.lay(0, 0, 5), 1, 7);
        e.tells("at", x -> x.at(0, 0), 1, 7);
        e.tells("mean", x -> x.mean(0), 1, 8);
        e.tells("piece", x -> x.piece(2, 1), 1, 30);
        e.tells("meets", x -> x.meets(0), 1, 3);
        e.tells("soon", x -> x.soon(), 0, 1);
        e.tells("room", x -> x.room(0, 9), 2, 40);
        e.tells("stairs", x -> x.stairs(0), 0, 2);
        e.tells("doomed", x -> x.doomed(0), 0, NONE);
        e.tells("out", x -> x.out(0), 1, 1);
        e.tells("late", x -> x.late(1), 2, 1);
        e.tells("from", x -> x.from(0, 2), 60, 0);
        e.tells("the latest of two", x -> Edges.last(x.piece(2, 1), x.mean(0)), 1, 8);
        e.tells("the latest of two", x -> Edges.last(x.mean(0), x.piece(2, 1)), 1, 30);
    }

    private static void askedBehindRefused(Edges e) {
        e.sentence(41, "that was not refused");
        e.begin(() -> house(e.due));
        e.tells("lay", x -> x.lay(0, 2, 5), -3, 9);
        e.tells("at", x -> x.at(0, 2), -3, 9);
        e.tells("mean", x -> x.mean(2), -3, 9);
        e.tells("piece", x -> x.piece(3, 1), -1, 9);
        e.tells("meets", x -> x.meets(421), -1, 9);
        e.tells("room", x -> x.room(0, 10), -1, 9);
        e.tells("stairs", x -> x.stairs(8), -1, 9);
        e.tells("doomed", x -> x.doomed(61), -1, 9);
        e.tells("out", x -> x.out(61), -1, 9);
        e.tells("late", x -> x.late(0), -3, 9);
        e.tells("from", x -> x.from(3, 2), -1, 9);
    }

    private static void askedBehindNone(Edges e) {
        e.sentence(41, "(nor NONE, but as told)");
        e.begin(() -> {
            NeverTogether x = e.due.house("z0 m0040 m1040 m2040 m3040 m4040 m5040");
            x.piece(5, 1);
            return x;
        });
        e.tells("soon", x -> x.soon(), NONE, 50);
        e.tells("room, as told", x -> x.room(0, 8), NONE, 0);
        e.tells("doomed, as told", x -> x.doomed(60), 0, NONE);
        e.tells("from, as told", x -> Edges.last(x.row(0, 4), x.lay(0, 3, 1), x.from(0, 0)), 0, NONE);
        e.begin(() -> {
            NeverTogether x = e.due.house("z0 m5040 m5040 m5040");
            x.piece(0, 1);
            return x;
        });
        e.tells("stairs", x -> x.stairs(0), NONE, 50);
        e.tells("apart", x -> x.apart(0, 0), NONE, 50);
    }

    private static void askedBehindOthers(Edges e) {
        e.sentence(41, "What the latest lay(), .. told (and no other call)");
        e.begin(() -> house(e.due));
        String[] names = {"row", "tear", "copy", "text", "put", "fault", "house", "mark", "heat", "day", "touch", "undo", "keep",
            "on", "minute", "meet", "often", "sounds", "right", "apart", "rates", "kinds", "cat", "first", "odds", "mid", "lots",
            "count", "finding", "findings"};
        for (int k = 0; k < names.length; k++) {
            ToIntFunction<NeverTogether> call = other(k);
            NeverTogether x = house(e.due);
            x.keep(0);
            x.at(0, 1);
            call.applyAsInt(x);
            e.is("asked() behind " + names[k], x.asked(), 9);
            x.digest();
            x.upper();
            x.lower();
            e.is("asked() behind asked(), digest(), upper(), lower()", x.asked(), 9);
        }
    }

    private static ToIntFunction<NeverTogether> other(int k) {
        switch (k) {
            case 0: return x -> x.row(5, 3);
            case 1: return x -> x.tear(1);
            case 2: return x -> x.copy(0, 0, 1, 0, 2);
            case 3: return x -> x.text(1, 5);
            case 4: return x -> x.put(0, 0, 65);
            case 5: return x -> x.fault(0);
            case 6: return x -> x.house(0);
            case 7: return x -> x.mark(2, 1);
            case 8: return x -> x.heat(3);
            case 9: return x -> x.day();
            case 10: return x -> x.touch(0, 1);
            case 11: return x -> x.undo(0);
            case 12: return x -> x.keep(1);
            case 13: return x -> x.on(0);
            case 14: return x -> x.minute(2, 3);
            case 15: return x -> x.meet(0, 1);
            case 16: return x -> x.often(0, 1, 60);
            case 17: return x -> x.sounds(3);
            case 18: return x -> x.right(0, 1, 60);
            case 19: return x -> x.apart(0, 3);
            case 20: return x -> x.rates(0, 2);
            case 21: return x -> x.kinds(0, 2);
            case 22: return x -> x.cat(1);
            case 23: return x -> x.first(1);
            case 24: return x -> x.odds(0, 1, 3, 5);
            case 25: return x -> x.mid(0, 3, 5);
            case 26: return x -> x.lots(3, 5);
            case 27: return x -> x.count(3);
            case 28: return x -> x.finding();
            default: return x -> x.findings(1);
        }
    }

    private static void countNumbers(Edges e) {
        e.sentence(44, "0 TIMEPIECES, .. 8 kept HOUSES. BAD.");
        e.beginNew();
        e.range("count(v)", (x, what) -> x.count(what), 0, 8, what -> 0);
    }

    private static void counts(Edges e, String text, int... want) {
        e.beginHouse(text);
        for (int what = 0; what < want.length; what++) {
            int w = what;
            e.is("count(" + what + ") of " + text, x -> x.count(w), want[what]);
        }
    }

    private static void countOfHouses(Edges e) {
        e.sentence(44, "0 TIMEPIECES, 1 the DAY, 2 DEEDS, 3 pairs that MEET now, 4 CUCKOOS (..), 5 BRASS ones (..)");
        counts(e, "z0 c0040", 1, 0, 0, 0, 0, 0, 0, 1, 0);
        counts(e, "z0 k0040", 1, 0, 0, 0, 1, 0, 0, 1, 0);
        counts(e, "z0 b0040", 1, 0, 0, 0, 0, 1, 0, 1, 0);
        counts(e, "z0 s0040", 1, 0, 0, 0, 0, 0, 0, 1, 0);
        counts(e, "z0 m0040", 1, 0, 0, 0, 1, 0, 0, 1, 0);
        counts(e, "z0 r0040", 1, 0, 0, 0, 0, 1, 0, 1, 0);
        counts(e, "z0 k0040k0040k0040m0040m0040m0040", 6, 0, 0, 15, 6, 0, 0, 1, 0);
        counts(e, "z0 b0040b0040b0040r0040r0040r0040", 6, 0, 0, 15, 0, 6, 0, 1, 0);
        counts(e, "z3 b0040c0340r0640", 3, 0, 0, 0, 0, 2, 0, 1, 0);
        e.beginAfter("z3 b0040c0340r0640", 1);
        e.is("pairs that MEET on DAY 1", x -> x.count(3), 3);
        e.beginAfter("z3 b0040c0340r0640", 40);
        e.is("DAY 40", x -> x.count(1), 40);
        e.is("40 DEEDS", x -> x.count(2), 40);
        e.is("a TOUCH is no DAY", x -> Edges.last(x.undo(0), x.touch(0, 1), x.count(1)), 0);
        e.is("a TOUCH is a DEED", x -> Edges.last(x.undo(0), x.touch(0, 1), x.count(2)), 1);
    }

    private static void countOfRows(Edges e) {
        e.sentence(44, "6 ROWS, 7 TEXTS that are there");
        e.beginNew();
        e.in("ROWS behind v", (x, many) -> {
            for (int r = 0; r < many; r++) {
                x.row(r, r);
            }
            return 10 * x.count(6) + x.count(7);
        }, many -> 10 * many, 0, 1, 5, 6);
        e.in("TEXTS behind v", (x, many) -> {
            for (int t = 0; t < many; t++) {
                x.text(3 - t, t);
            }
            return 10 * x.count(6) + x.count(7);
        }, many -> many, 0, 1, 3, 4);
        e.is("ROWS behind row twice", x -> Edges.last(x.row(2, 1), x.row(2, 0), x.count(6)), 1);
        e.is("ROWS behind tear", x -> Edges.last(x.row(2, 1), x.row(3, 1), x.tear(2), x.count(6)), 1);
        e.is("ROWS behind a refused one", x -> Edges.last(x.row(2, -1), x.row(2, 41), x.count(6)), 0);
    }

    private static void countOfKept(Edges e) {
        e.sentence(44, "8 kept HOUSES");
        e.beginHouse("z0 c0040");
        e.is("one", x -> Edges.last(x.keep(2), x.count(8)), 1);
        e.is("two", x -> Edges.last(x.keep(2), x.keep(0), x.count(8)), 2);
        e.is("three", x -> Edges.last(x.keep(2), x.keep(0), x.keep(1), x.count(8)), 3);
        e.is("one twice", x -> Edges.last(x.keep(2), x.keep(2), x.count(8)), 1);
        e.is("gone on from", x -> Edges.last(x.keep(2), x.on(2), x.count(8)), 1);
        e.is("anew", x -> Edges.last(x.keep(2), x.keep(0), x.keep(1), x.house(0), x.count(8)), 0);
    }

    private static void findingBefore(Edges e) {
        e.sentence(45, "(0 before any)");
        e.beginNew();
        e.is("finding() of a new one", x -> x.finding(), 0);
        e.is("finding() behind BAD, STATE, NONE", x -> Edges.last(x.row(6, 0), x.day(), x.soon(), x.finding()), 0);
        e.beginAfter("z0 c0040", 40);
        e.is("finding() behind FULL", x -> Edges.last(x.day(), x.finding()), 0);
    }

    private static void findingsNumbers(Edges e) {
        e.sentence(46, "How often a FINDING (1 .. 5) was answered. BAD.");
        e.beginNew();
        e.range("findings(v)", (x, f) -> x.findings(f), 1, 5, f -> 0);
        e.begin(() -> {
            NeverTogether x = e.due.house("z0 c0040");
            x.row(0, 0);
            for (int k = 1; k <= 5; k++) {
                for (int f = k; f <= 5; f++) {
                    x.mark(0, f == 3 ? 1 : 0);
                    x.mean(f == 1 ? 5 : f == 4 ? 0 : -1);
                    x.at(f == 2 ? 0 : -1, 0);
                    x.row(0, f == 5 ? -1 : 0);
                }
            }
            return x;
        });
        e.range("findings(v), each once more than the one ahead", (x, f) -> x.findings(f), 1, 5, f -> f);
        e.is("finding(): the latest", x -> x.finding(), 5);
    }

    private static void findingStays(Edges e) {
        e.sentence(45, "The latest FINDING");
        e.begin(() -> {
            NeverTogether x = e.due.house("z0 c0040");
            x.row(0, 0);
            x.at(0, 0);
            return x;
        });
        e.is("BEYOND", x -> x.finding(), Edges.BEYOND);
        e.is("behind a good call", x -> Edges.last(x.row(0, 1), x.finding()), Edges.BEYOND);
        e.is("behind BAD", x -> Edges.last(x.row(6, 1), x.finding()), Edges.BEYOND);
        e.is("behind STATE", x -> Edges.last(x.touch(0, 1), x.touch(0, 1), x.finding()), Edges.BEYOND);
        e.is("behind a new HOUSE", x -> Edges.last(x.house(0), x.finding()), Edges.BEYOND);
        e.is("behind NOTHING", x -> Edges.last(x.at(1, 0), x.finding()), Edges.NOTHING);
        e.is("behind UNLIKE", x -> Edges.last(x.mark(0, 5), x.finding()), Edges.UNLIKE);
        e.is("behind NOUGHT", x -> Edges.last(x.mean(0), x.finding()), Edges.NOUGHT);
        e.is("behind SIZE", x -> Edges.last(x.text(0, -1), x.finding()), Edges.SIZE);
    }

    private static long mixed(long... values) {
        long h = 17;
        for (long v : values) {
            h = 31 * h + v;
        }
        return h;
    }

    private static void digests(Edges e) {
        e.sentence(47, "h = 17; then h = 31 h + v for each v: .. (-1: missing) ..");
        e.is("digest() of a new one", new NeverTogether().digest(),
            mixed(0, 0, 0, 0, 0, 0, 0, 0, 0, -1, -1, -1, -1, -1, -1, -1, -1, -1, -1, -1, -1, -1));
        NeverTogether ends = Edges.withRows(0, 1);
        ends.lay(1, 0, Edges.LEAST);
        ends.row(5, 2);
        ends.lay(5, 1, Edges.MOST);
        ends.text(0, 0);
        ends.text(3, 3);
        ends.put(3, 0, -1);
        ends.put(3, 2, 128);
        e.is("digest() of ROWS, TEXTS of few and none", ends.digest(),
            mixed(0, 0, 0, 0, 0, 0, 3, 2, 0, -1, -1, -1,
                0, 1, Edges.LEAST, -1, -1, -1, 2, 0, Edges.MOST, 0, -1, -1, 3, -1, 32, -128));
        NeverTogether x = e.due.house("z1 c0000 m5993");
        x.text(0, 1);
        x.keep(0);
        x.touch(1, -5);
        x.keep(2);
        x.day();
        e.is("digest() of two, with kept ones of 0 and 1 DEEDS", x.digest(),
            mixed(2, 1, 2, 0, 1, 0, 0, 1, 2, 0, 56, -4, 0, 1, 0, 4, 59, 5, 3, 3, 0, 0, -1, 1,
                -1, -1, -1, -1, -1, -1, 1, 32, -1, -1, -1));
        x.touch(0, 3);
        e.is("digest() of one TOUCHED this DAY: both at 59", x.digest(),
            mixed(2, 1, 3, 1, 1, 0, 0, 1, 2, 0, 59, -4, 0, 1, 1, 4, 59, 5, 3, 3, 0, 0, -1, 1,
                -1, -1, -1, -1, -1, -1, 1, 32, -1, -1, -1));
        e.is("digest() changes nothing", x.digest(), x.digest());
    }

    /** Whatever is counted must hold as many as there can be calls. */
    private static void untilTheLastCall(Edges e) {
        e.sentence(0, "An object is used for at most 512 calls");
        NeverTogether x = new NeverTogether();
        for (int call = 1; call <= 510; call++) {
            x.tear(call % 6);
        }
        e.is("call 511 of one object", any -> x.findings(Edges.NOTHING), 510);
        e.is("call 512 of one object", any -> x.finding(), Edges.NOTHING);
        NeverTogether y = e.due.house("z0 c0050");
        for (int call = 1; call <= 220; call++) {
            y.day();
            y.undo(0);
        }
        e.is("a DAY at the end of an object's calls", any -> Edges.last(y.day(), y.minute(0, 0)), 1);
    }
}
