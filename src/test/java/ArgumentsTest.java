import java.lang.reflect.Method;
import java.util.ArrayList;
import java.util.Arrays;
import java.util.Comparator;
import java.util.List;

/**
 * Every call with every argument at and next to each number that the document names, in several states of the object:
 * nothing is thrown, and all is answered as the Model answers it.
 */
public final class ArgumentsTest {
    /** For copy and odds, which name fewer numbers than others and take more arguments. */
    private static final int[] FEW = {Integer.MIN_VALUE, -1, 0, 1, 2, 3, 4, 5, 6, 39, 40, 41, Integer.MAX_VALUE};
    private static final int[] SOME = {Integer.MIN_VALUE, -6, -5, -1, 0, 1, 2, 3, 4, 5, 6, 7, 11, 12, 13, Integer.MAX_VALUE};
    private static final int[] MANY = {
        Integer.MIN_VALUE, Integer.MIN_VALUE + 1, -61, -60, -10, -6, -5, -4, -1, 0, 1, 2, 3, 4, 5, 6, 7, 8, 9, 10, 12, 13, 19, 20,
        21, 39, 40, 41, 59, 60, 61, 419, 420, 421, 998, 999, 1000, Integer.MAX_VALUE - 1, Integer.MAX_VALUE,
    };
    /** So often an object is asked (a call and asked()); with what makes its state that stays below 512 calls. */
    private static final int CALLS = 190;
    private static final int STATES = 7;

    private final Due due = new Due();
    private NeverTogether x;
    private Model m;

    public static void main(String[] args) throws Exception {
        ArgumentsTest test = new ArgumentsTest();
        Method[] face = NeverTogether.class.getDeclaredMethods();
        Arrays.sort(face, Comparator.comparing(Method::getName));
        for (int state = 0; state < STATES; state++) {
            for (Method call : face) {
                if (java.lang.reflect.Modifier.isPublic(call.getModifiers())) {
                    test.allArguments(call, state);
                }
            }
        }
        test.due.end("ArgumentsTest");
    }

    private void allArguments(Method call, int state) throws Exception {
        Method due = Model.class.getDeclaredMethod(call.getName(), call.getParameterTypes());
        int parameters = call.getParameterCount();
        int[] values = parameters == 5 ? FEW : parameters == 4 ? SOME : MANY;
        List<Object[]> all = new ArrayList<>();
        add(all, new Object[parameters], 0, values);
        for (int k = 0; k < all.size(); k++) {
            if (k % CALLS == 0) {
                make(state);
            }
            ask(call, due, all.get(k), state);
            if (k % CALLS == CALLS - 1 || k == all.size() - 1) {
                same(call.getName() + " in state " + state);
            }
        }
    }

    private static void add(List<Object[]> all, Object[] chosen, int next, int[] values) {
        if (next == chosen.length) {
            all.add(chosen.clone());
            return;
        }
        for (int v : values) {
            chosen[next] = v;
            add(all, chosen, next + 1, values);
        }
    }

    private void ask(Method call, Method model, Object[] arguments, int state) throws Exception {
        long got = ((Number) call.invoke(x, arguments)).longValue();
        long want = ((Number) model.invoke(m, arguments)).longValue();
        if (got != want || x.asked() != m.asked()) {
            String what = call.getName() + Arrays.toString(arguments) + " in state " + state;
            due.is(what, got, want);
            due.is(what + ": asked()", x.asked(), m.asked());
        }
    }

    private void same(String when) {
        due.is("digest() behind " + when, x.digest(), m.digest());
        due.is("finding() behind " + when, x.finding(), m.finding());
        for (int f = 1; f <= 5; f++) {
            due.is("findings(" + f + ") behind " + when, x.findings(f), m.findings(f));
        }
        due.is("upper() behind " + when, x.upper(), m.upper());
        due.is("lower() behind " + when, x.lower(), m.lower());
    }

    private void make(int state) {
        x = new NeverTogether();
        m = new Model();
        String[] houses = {"", "", "z0 c0040", "z3 c5890 s0140", "z0123321 c0053 b1042 r2041", "z12 k5840 m0050 s0290 b0140",
            "z0 c0040 k0143 b5942 s0341 m0540 r5840"};
        if (state > 1) {
            write(0, houses[state]);
            due.is("house " + houses[state], x.house(0), m.house(0));
        }
        if (state > 0) {
            fill();
        }
        if (state == 3) {
            pass(40);
        } else if (state > 3) {
            due.is("keep(2)", x.keep(2), m.keep(2));
            due.is("touch(1, 1)", x.touch(1, 1), m.touch(1, 1));
            pass(state);
            due.is("keep(0)", x.keep(0), m.keep(0));
            due.is("touch(0, -1)", x.touch(0, -1), m.touch(0, -1));
        }
    }

    private void write(int t, String text) {
        due.is("text", x.text(t, text.length()), m.text(t, text.length()));
        for (int i = 0; i < text.length(); i++) {
            due.is("put", x.put(t, i, text.charAt(i)), m.put(t, i, text.charAt(i)));
        }
    }

    /** ROWS of no ints, of one, of two pairs, of as many as there are TIMEPIECES, of 40; ROW 5 is missing. */
    private void fill() {
        int[] sizes = {0, 1, 4, m.count(0), 40};
        for (int r = 0; r < sizes.length; r++) {
            due.is("row", x.row(r, sizes[r]), m.row(r, sizes[r]));
        }
        for (int i = 0; i < m.count(0); i++) {
            due.is("lay", x.lay(3, i, m.minute(i, 0)), m.lay(3, i, m.minute(i, 0)));
        }
        due.is("lay", x.lay(2, 2, 60), m.lay(2, 2, 60));
        write(1, "z0");
        write(2, "z2s0043");
    }

    private void pass(int days) {
        for (int d = 0; d < days; d++) {
            due.is("day", x.day(), m.day());
        }
    }
}
