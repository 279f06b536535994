import java.util.Arrays;

/** What the tests share: comparing answers, counting wrong ones, and setting up texts, rows, houses. */
final class Due {
    /** The house of the shared runs: one TIMEPIECE of each KIND. */
    static final String ALL_KINDS = "z0123 c0050 k1041b2062s3043 m0271r5853";

    private int wrong = 0;
    private int asked = 0;

    void is(String what, long got, long want) {
        asked++;
        if (got != want) {
            wrong++;
            System.out.println(what + " answered " + got + ", due is " + want);
        }
    }

    void isTrue(String what, boolean got) {
        is(what, got ? 1 : 0, 1);
    }

    /** The answer, and what asked() tells behind it. */
    void told(String what, NeverTogether x, long got, long want, int wantAsked) {
        is(what, got, want);
        is(what + ": asked()", x.asked(), wantAsked);
    }

    /** A FINDING of a number, which is counted, and changes nothing else. */
    void found(String what, NeverTogether x, java.util.function.IntSupplier call, int finding) {
        int[] before = new int[6];
        for (int f = 1; f <= 5; f++) {
            before[f] = x.findings(f) + (f == finding ? 1 : 0);
        }
        long digest = x.digest();
        int asked = x.asked();
        is(what, call.getAsInt(), NeverTogether.FINDING);
        is(what + ": finding()", x.finding(), finding);
        for (int f = 1; f <= 5; f++) {
            is(what + ": findings(" + f + ")", x.findings(f), before[f]);
        }
        is(what + ": digest()", x.digest(), digest);
        is(what + ": asked()", x.asked(), asked);
    }

    /** Refused without a FINDING: nothing at all is changed. */
    void refused(String what, NeverTogether x, java.util.function.IntSupplier call, int answer) {
        int[] before = state(x);
        long digest = x.digest();
        is(what, call.getAsInt(), answer);
        isTrue(what + " changes nothing", Arrays.equals(before, state(x)) && digest == x.digest());
    }

    private static int[] state(NeverTogether x) {
        int[] state = new int[8];
        for (int f = 1; f <= 5; f++) {
            state[f] = x.findings(f);
        }
        state[0] = x.finding();
        state[6] = x.asked();
        state[7] = (int) (x.upper() * 31 + x.lower());
        return state;
    }

    void row(NeverTogether x, int r, int... values) {
        is("row(" + r + ", " + values.length + ")", x.row(r, values.length), values.length);
        for (int i = 0; i < values.length; i++) {
            is("lay(" + r + ", " + i + ")", x.lay(r, i, values[i]), 1);
        }
    }

    void rowIs(String what, NeverTogether x, int r, int... values) {
        for (int i = 0; i < values.length; i++) {
            told(what + ": at(" + r + ", " + i + ")", x, x.at(r, i), 1, values[i]);
        }
        is(what + ": at() behind the end", x.at(r, values.length), NeverTogether.FINDING);
    }

    void text(NeverTogether x, int t, String text) {
        is("text(" + t + ", " + text.length() + ")", x.text(t, text.length()), text.length());
        for (int i = 0; i < text.length(); i++) {
            if (text.charAt(i) != ' ') {
                is("put(" + t + ", " + i + ")", x.put(t, i, text.charAt(i)), 1032);
            }
        }
    }

    NeverTogether house(String text) {
        NeverTogether x = new NeverTogether();
        text(x, 0, text);
        is("fault of " + text, x.fault(0), NeverTogether.NONE);
        isTrue("house of " + text, x.house(0) > 0);
        return x;
    }

    void end(String test) {
        System.out.println(test + ": " + asked + " answers, " + wrong + " wrong");
        if (wrong != 0) {
            System.exit(1);
        }
    }
}
