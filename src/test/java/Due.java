import java.util.Arrays;
import java.util.function.IntSupplier;

/** What the tests share: comparing answers, counting wrong ones, and setting up texts, rows, houses. */
final class Due {
    /** The house of the shared runs: one TIMEPIECE of each KIND. */
    static final String ALL_KINDS = "z0123 c0050 k1041b2062s3043 m0271r5853";

    private int wrong = 0;
    private int asked = 0;

    void is(String what, long got, long want) {
        asked++;
        if (got != want) {
            wrong++;
            System.out.println(what + " answered " + got + ", due is " + want);
        }
    }

    void isTrue(String what, boolean got) {
        is(what, got ? 1 : 0, 1);
    }

    /** The answer, and what asked() tells behind it. */
    void told(String what, NeverTogether x, long got, long want, int wantAsked) {
        is(what, got, want);
        is(what + ": asked()", x.asked(), wantAsked);
    }

    /** A FINDING of a number, which is counted, and changes nothing else. */
    void found(String what, NeverTogether x, IntSupplier call, int finding) {
        long[] before = picture(x);
        before[0] = finding;
        before[finding]++;
        is(what, call.getAsInt(), NeverTogether.FINDING);
        is(what + ": finding()", x.finding(), finding);
        same(what, before, picture(x));
    }

    /** Refused without a FINDING: nothing at all is changed. */
    void refused(String what, NeverTogether x, IntSupplier call, int answer) {
        long[] before = picture(x);
        is(what, call.getAsInt(), answer);
        same(what, before, picture(x));
    }

    private void same(String what, long[] before, long[] now) {
        isTrue(what + " changes nothing: " + Arrays.toString(before) + ", " + Arrays.toString(now),
            Arrays.equals(before, now));
    }

    /** All that can be asked without changing anything: FINDINGS first, so that one may be due to change. */
    private static long[] picture(NeverTogether x) {
        long[] picture = new long[18];
        picture[0] = x.finding();
        for (int f = 1; f <= 5; f++) {
            picture[f] = x.findings(f);
        }
        picture[6] = x.asked();
        picture[7] = x.upper();
        picture[8] = x.lower();
        picture[9] = x.digest();
        for (int day = 0; day < 7; day++) {
            picture[10 + day] = x.heat(day);
        }
        picture[17] = x.sounds(1);
        return picture;
    }

    void row(NeverTogether x, int r, int... values) {
        is("row(" + r + ", " + values.length + ")", x.row(r, values.length), values.length);
        for (int i = 0; i < values.length; i++) {
            is("lay(" + r + ", " + i + ")", x.lay(r, i, values[i]), 1);
        }
    }

    void rowIs(String what, NeverTogether x, int r, int... values) {
        for (int i = 0; i < values.length; i++) {
            told(what + ": at(" + r + ", " + i + ")", x, x.at(r, i), 1, values[i]);
        }
        is(what + ": at() behind the end", x.at(r, values.length), NeverTogether.FINDING);
    }

    void text(NeverTogether x, int t, String text) {
        is("text(" + t + ", " + text.length() + ")", x.text(t, text.length()), text.length());
        for (int i = 0; i < text.length(); i++) {
            if (text.charAt(i) != ' ') {
                is("put(" + t + ", " + i + ")", x.put(t, i, text.charAt(i)), 1032);
            }
        }
    }

    NeverTogether house(String text) {
        NeverTogether x = new NeverTogether();
        text(x, 0, text);
        is("fault of " + text, x.fault(0), NeverTogether.NONE);
        isTrue("house of " + text, x.house(0) > 0);
        return x;
    }

    void end(String test) {
        System.out.println(test + ": " + asked + " answers, " + wrong + " wrong");
        if (wrong != 0) {
            System.exit(1);
        }
    }
}
