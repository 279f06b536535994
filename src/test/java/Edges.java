import java.util.function.IntSupplier;
import java.util.function.IntUnaryOperator;
import java.util.function.Supplier;
import java.util.function.ToIntFunction;

/**
 * Cases at the edges that a sentence of the document names. Each case has a new object,
 * so that none comes near its 512th call and none leans on another.
 */
final class Edges {
    static final int BAD = NeverTogether.BAD, FULL = NeverTogether.FULL, STATE = NeverTogether.STATE;
    static final int NONE = NeverTogether.NONE;
    static final int NOTHING = 1, BEYOND = 2, UNLIKE = 3, NOUGHT = 4, SIZE = 5;
    static final int MOST = Integer.MAX_VALUE, LEAST = Integer.MIN_VALUE;

    /** A call one of whose arguments is at the edge. */
    interface Call {
        int of(NeverTogether x, int v);
    }

    final Due due = new Due();
    private Supplier<NeverTogether> making = NeverTogether::new;
    private String sentence = "";

    /** The words that the cases behind this hold to; promise 0: the sections ahead of the promises. */
    void sentence(int promise, String words) {
        sentence = (promise == 0 ? "" : "promise " + promise + ", ") + "'" + words + "': ";
    }

    /** What each case begins with. */
    void begin(Supplier<NeverTogether> objects) {
        making = objects;
    }

    void beginNew() {
        begin(NeverTogether::new);
    }

    void beginHouse(String text) {
        begin(() -> due.house(text));
    }

    /** A house in which so many DAYS, DEEDS all of them, have passed. */
    void beginAfter(String text, int days) {
        begin(() -> passed(due.house(text), days));
    }

    static NeverTogether passed(NeverTogether x, int days) {
        for (int d = 0; d < days; d++) {
            x.day();
        }
        return x;
    }

    /** The last of some answers, the calls ahead of it being done for what they change. */
    static int last(int... answers) {
        return answers[answers.length - 1];
    }

    static int ring(int minute) {
        return Math.floorMod(minute, 60);
    }

    /** One of the three calls that take what was heard of a TIMEPIECE: rates, kinds, from. */
    static int heard(NeverTogether x, int which, int i, int r) {
        return which == 0 ? x.rates(i, r) : which == 1 ? x.kinds(i, r) : x.from(i, r);
    }

    static NeverTogether withRows(int... sizes) {
        NeverTogether x = new NeverTogether();
        for (int r = 0; r < sizes.length; r++) {
            x.row(r, sizes[r]);
        }
        return x;
    }

    // ---- one call

    void is(String call, ToIntFunction<NeverTogether> of, int want) {
        due.is(sentence + call, of.applyAsInt(making.get()), want);
    }

    void isTrue(String what, boolean got) {
        due.isTrue(sentence + what, got);
    }

    void tells(String call, ToIntFunction<NeverTogether> of, int want, int wantAsked) {
        NeverTogether x = making.get();
        due.told(sentence + call, x, of.applyAsInt(x), want, wantAsked);
    }

    void tellsChances(String call, ToIntFunction<NeverTogether> of, long upper, long lower) {
        NeverTogether x = making.get();
        due.is(sentence + call, of.applyAsInt(x), 1);
        due.is(sentence + call + ": upper()", x.upper(), upper);
        due.is(sentence + call + ": lower()", x.lower(), lower);
    }

    void refused(String call, ToIntFunction<NeverTogether> of, int answer) {
        NeverTogether x = making.get();
        due.refused(sentence + call, x, () -> of.applyAsInt(x), answer);
    }

    void finds(String call, ToIntFunction<NeverTogether> of, int finding) {
        NeverTogether x = making.get();
        due.found(sentence + call, x, () -> of.applyAsInt(x), finding);
    }

    // ---- answers of an object that a test goes on with

    void is(String what, long got, long want) {
        due.is(sentence + what, got, want);
    }

    void told(String what, NeverTogether x, long got, long want, int wantAsked) {
        due.told(sentence + what, x, got, want, wantAsked);
    }

    void rowIs(String what, NeverTogether x, int r, int... values) {
        due.rowIs(sentence + what, x, r, values);
    }

    void found(String what, NeverTogether x, IntSupplier call, int finding) {
        due.found(sentence + what, x, call, finding);
    }

    void refused(String what, NeverTogether x, IntSupplier call, int answer) {
        due.refused(sentence + what, x, call, answer);
    }

    // ---- one call with several values of one argument, which its name shows as v

    void in(String call, Call of, IntUnaryOperator want, int... values) {
        for (int v : values) {
            is(call + " with v " + v, x -> of.of(x, v), want.applyAsInt(v));
        }
    }

    void bad(String call, Call of, int... values) {
        for (int v : values) {
            refused(call + " with v " + v, x -> of.of(x, v), BAD);
        }
    }

    void allFind(String call, Call of, int finding, int... values) {
        for (int v : values) {
            finds(call + " with v " + v, x -> of.of(x, v), finding);
        }
    }

    /** From the least to the most it is answered, next to these and far from them it is BAD. */
    void range(String call, Call of, int least, int most, IntUnaryOperator want) {
        in(call, of, want, least, Math.min(least + 1, most), Math.max(most - 1, least), most);
        bad(call, of, least - 1, most + 1, LEAST, MOST);
    }

    void end(String test) {
        due.end(test);
    }
}
