import java.util.Random;

/** Runs of calls drawn from fixed seeds, good and wrong ones mixed, on the class and on the Model alike. */
public final class ModelTest {
    private static final String[] CALLS = {
        "row", "lay", "at", "tear", "copy", "mean", "text", "put", "fault", "house", "piece", "mark", "heat", "day",
        "touch", "undo", "keep", "on", "minute", "meet", "meets", "soon", "often", "sounds", "room", "right", "apart",
        "stairs", "doomed", "out", "late", "rates", "kinds", "from", "cat", "first", "odds", "mid", "lots", "count",
        "findings",
    };
    private static final int[] WILD = {-1, 0, 1, 6, 7, 40, 41, 60, 61, 420, 421, 1000, Integer.MAX_VALUE, Integer.MIN_VALUE};

    /** With what is asked behind each, and with what furnishes a house, these stay below an object's 512. */
    private static final int CALLS_OF_A_RUN = 40;

    private final Due due = new Due();
    private final Random random = new Random(20261117);
    private NeverTogether x;
    private Model m;

    public static void main(String[] args) {
        ModelTest test = new ModelTest();
        int runs = args.length > 0 ? Integer.parseInt(args[0]) : 400;
        for (int run = 0; run < runs; run++) {
            test.run(run);
        }
        for (int k = 0; k < 20000; k++) {
            test.faults(k);
        }
        test.due.end("ModelTest");
    }

    private void run(int run) {
        x = new NeverTogether();
        m = new Model();
        if (run % 10 != 0) {
            furnish(run % 2 == 0 ? 6 : 1 + random.nextInt(6));
        }
        for (int call = 0; call < CALLS_OF_A_RUN; call++) {
            String name = CALLS[random.nextInt(CALLS.length)];
            if (name.equals("house") && random.nextInt(3) > 0) {
                furnish(1 + random.nextInt(6));
            } else if (name.equals("late") || name.equals("rates") || name.equals("kinds") || name.equals("from")) {
                hear(name);
                any(name);
            } else {
                any(name);
            }
            same("run " + run + " behind " + name);
            if (call == CALLS_OF_A_RUN / 2) {
                marks();
            }
        }
        due.is("run " + run + ": upper()", x.upper(), m.upper());
        due.is("run " + run + ": lower()", x.lower(), m.lower());
    }

    private void same(String when) {
        due.is(when + ": asked()", x.asked(), m.asked());
        due.is(when + ": finding()", x.finding(), m.finding());
        due.is(when + ": digest()", x.digest(), m.digest());
    }

    private void marks() {
        for (int i = 0; i < m.count(0); i++) {
            for (int kind = 1; kind <= 5; kind++) {
                due.is("mark(" + i + ", " + kind + ")", x.mark(i, kind), m.mark(i, kind));
            }
        }
    }

    private int less(int bound) {
        return random.nextInt(bound);
    }

    private int arg(int usual) {
        return less(12) == 0 ? WILD[less(WILD.length)] : less(usual);
    }

    private String houseText(int pieces) {
        StringBuilder b = new StringBuilder(" ".repeat(less(2))).append('z');
        int heats = 1 + less(7);
        for (int k = 0; k < heats; k++) {
            b.append(less(4));
        }
        boolean near = less(2) == 0;
        for (int i = 0; i < pieces; i++) {
            b.append(" ".repeat(less(2)));
            int minute = near ? (55 + less(14)) % 60 : less(60);
            b.append("ckbsmr".charAt(less(6))).append(minute / 10).append(minute % 10);
            b.append(near ? 3 + less(3) : less(10)).append(less(4));
        }
        return b.toString();
    }

    private void write(int t, String text) {
        due.is("text", x.text(t, text.length()), m.text(t, text.length()));
        for (int i = 0; i < text.length(); i++) {
            due.is("put", x.put(t, i, text.charAt(i)), m.put(t, i, text.charAt(i)));
        }
    }

    private void furnish(int pieces) {
        String text = houseText(pieces);
        write(0, text);
        due.is("house " + text, x.house(0), m.house(0));
        same("house " + text);
    }

    /** A ROW as it would truly be seen or heard, now and then with something wrong in it. */
    private void hear(String name) {
        int i = less(6);
        int n = name.equals("late") ? m.count(0) : 2 * less(4);
        due.is("row(0, " + n + ")", x.row(0, n), m.row(0, n));
        for (int k = 0; k < n; k++) {
            int d = less(61);
            int v;
            if (name.equals("late")) {
                v = m.minute(k, 0) + (less(2) == 0 ? 0 : less(15) - 7);
            } else if (k % 2 == 0) {
                v = d;
            } else {
                m.at(0, k - 1);
                x.at(0, k - 1);
                v = Math.max(0, m.minute(i, m.asked()));
            }
            v = less(40) == 0 ? WILD[less(WILD.length)] : v;
            due.is("lay", x.lay(0, k, v), m.lay(0, k, v));
        }
        if (name.equals("late")) {
            due.is("late(0)", x.late(0), m.late(0));
        } else {
            due.is("rates", x.rates(i, 0), m.rates(i, 0));
            due.is("kinds", x.kinds(i, 0), m.kinds(i, 0));
            due.is("from", x.from(i, 0), m.from(i, 0));
        }
        same(name);
    }

    private void any(String name) {
        int i = arg(6);
        int j = arg(6);
        int n = arg(421);
        int r = arg(6);
        int v;
        switch (name) {
            case "row": v = arg(41); due.is("row(" + r + ", " + v + ")", x.row(r, v), m.row(r, v)); break;
            case "lay": v = random.nextInt(); due.is("lay(" + r + ", " + i + ")", x.lay(r, i, v), m.lay(r, i, v)); break;
            case "at": due.is("at(" + r + ", " + i + ")", x.at(r, i), m.at(r, i)); break;
            case "tear": due.is("tear(" + r + ")", x.tear(r), m.tear(r)); break;
            case "copy": v = arg(5); due.is("copy", x.copy(r, i, j, v, i), m.copy(r, i, j, v, i)); break;
            case "mean": due.is("mean(" + r + ")", x.mean(r), m.mean(r)); break;
            case "text": v = arg(61); due.is("text", x.text(r, v), m.text(r, v)); break;
            case "put": v = random.nextInt(); due.is("put", x.put(r, n % 70, v), m.put(r, n % 70, v)); break;
            case "fault": due.is("fault(" + r + ")", x.fault(r), m.fault(r)); break;
            case "house": due.is("house(" + r + ")", x.house(r), m.house(r)); break;
            case "piece": due.is("piece(" + i + ", " + j + ")", x.piece(i, j), m.piece(i, j)); break;
            case "mark": due.is("mark(" + i + ", " + j + ")", x.mark(i, j), m.mark(i, j)); break;
            case "heat": due.is("heat(" + n + ")", x.heat(n), m.heat(n)); break;
            case "day": due.is("day()", x.day(), m.day()); break;
            case "touch": v = less(14) - 7; due.is("touch(" + i + ", " + v + ")", x.touch(i, v), m.touch(i, v)); break;
            case "undo": v = less(6) == 0 ? arg(41) : m.count(2) - less(3); due.is("undo(" + v + ")", x.undo(v), m.undo(v)); break;
            case "keep": due.is("keep(" + r + ")", x.keep(r), m.keep(r)); break;
            case "on": due.is("on(" + r + ")", x.on(r), m.on(r)); break;
            case "minute": due.is("minute(" + i + ", " + n + ")", x.minute(i, n), m.minute(i, n)); break;
            case "meet": due.is("meet(" + i + ", " + j + ")", x.meet(i, j), m.meet(i, j)); break;
            case "meets": due.is("meets(" + n + ")", x.meets(n), m.meets(n)); break;
            case "soon": due.is("soon()", x.soon(), m.soon()); break;
            case "often": due.is("often(" + i + ", " + j + ", " + n + ")", x.often(i, j, n), m.often(i, j, n)); break;
            case "sounds": due.is("sounds(" + n + ")", x.sounds(n), m.sounds(n)); break;
            case "room": v = arg(11); due.is("room(" + n + ", " + v + ")", x.room(n, v), m.room(n, v)); break;
            case "right": v = arg(60); due.is("right", x.right(i, v, n), m.right(i, v, n)); break;
            case "findings": due.is("findings(" + i + ")", x.findings(i), m.findings(i)); break;
            case "count": v = arg(9); due.is("count(" + v + ")", x.count(v), m.count(v)); break;
            default: more(name, i, j, r);
        }
    }

    private void more(String name, int i, int j, int r) {
        int v;
        int p = arg(13);
        switch (name) {
            case "apart": v = arg(8); due.is("apart(" + v + ", " + r + ")", x.apart(v, r), m.apart(v, r)); break;
            case "stairs": v = arg(8); due.is("stairs(" + v + ")", x.stairs(v), m.stairs(v)); break;
            case "doomed": v = arg(61); due.is("doomed(" + v + ")", x.doomed(v), m.doomed(v)); break;
            case "out": v = arg(61); due.is("out(" + v + ")", x.out(v), m.out(v)); break;
            case "late": due.is("late(" + r + ")", x.late(r), m.late(r)); break;
            case "rates": due.is("rates(" + i + ", " + r + ")", x.rates(i, r), m.rates(i, r)); break;
            case "kinds": due.is("kinds(" + i + ", " + r + ")", x.kinds(i, r), m.kinds(i, r)); break;
            case "from": due.is("from(" + i + ", " + r + ")", x.from(i, r), m.from(i, r)); break;
            case "cat": v = arg(3); due.is("cat(" + v + ")", x.cat(v), m.cat(v)); break;
            case "first": v = arg(3); due.is("first(" + v + ")", x.first(v), m.first(v)); break;
            case "odds": v = arg(7); due.is("odds", x.odds(i, j, v, p), m.odds(i, j, v, p)); break;
            case "mid": v = arg(61); due.is("mid", x.mid(i, v, p), m.mid(i, v, p)); break;
            default:
                v = arg(21);
                int seed = less(8) == 0 ? arg(2) : random.nextInt();
                due.is("lots(" + v + ", " + seed + ")", x.lots(v, seed), m.lots(v, seed));
        }
    }

    /** A good TEXT with a sign or two changed, or cut off. */
    private void faults(int k) {
        if (k % 10 == 0) {
            x = new NeverTogether();
            m = new Model();
        }
        StringBuilder b = new StringBuilder(houseText(less(8)));
        for (int changes = less(3); changes > 0; changes--) {
            b.setCharAt(less(b.length()), " z0123456789ckbsmrx/:".charAt(less(21)));
        }
        b.setLength(Math.min(60, less(3) == 0 ? less(b.length() + 1) : b.length()));
        String text = b.toString();
        write(k % 4, text);
        due.is("fault of '" + text + "'", x.fault(k % 4), m.fault(k % 4));
    }
}
