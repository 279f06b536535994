import java.math.BigInteger;
import java.util.ArrayList;
import java.util.List;
import java.util.regex.Pattern;

/**
 * The document once more, in the slowest and plainest form: days pass one by one, MINUTES are sets,
 * all ways are tried. ModelTest holds the class against it.
 */
final class Model {
    private static final int BAD = -1, FULL = -2, FINDING = -3, STATE = -4, NONE = -9;
    private static final String LETTERS = "ckbsmr";

    /** One TIMEPIECE; copied whenever something is only imagined. */
    private static final class Piece {
        int kind, minute, rate, floor;
        boolean touched;

        Piece copy() {
            Piece p = new Piece();
            p.kind = kind;
            p.minute = minute;
            p.rate = rate;
            p.floor = floor;
            p.touched = touched;
            return p;
        }

        int strikes() {
            return kind == 1 ? 2 : kind == 4 ? 3 : 1;
        }

        boolean strikesAt(int m) {
            for (int k = 0; k < strikes(); k++) {
                if ((minute + k) % 60 == m) {
                    return true;
                }
            }
            return false;
        }

        int gain(int heat) {
            return kind == 3 ? 0 : kind == 2 ? rate + heat : kind == 5 ? rate - heat : rate;
        }

        void move(int by) {
            minute = ((minute + by) % 60 + 60) % 60;
        }

        boolean meets(Piece other) {
            for (int m = 0; m < 60; m++) {
                if (strikesAt(m) && other.strikesAt(m)) {
                    return true;
                }
            }
            return false;
        }
    }

    /** TIMEPIECES on a DAY, and how many DEEDS led there; a state of the house is never changed, but for new ones. */
    private static final class State {
        List<Piece> pieces = new ArrayList<>();
        int day;

        State copy() {
            State s = new State();
            s.day = day;
            for (Piece p : pieces) {
                s.pieces.add(p.copy());
            }
            return s;
        }
    }

    private final int[][] rows = new int[6][];
    private final byte[][] texts = new byte[4][];
    private String heats = "";
    /** The states of the house, the last one being that of now: one more than DEEDS. */
    private List<State> story = new ArrayList<>(List.of(new State()));
    private final List<List<State>> kept = new ArrayList<>();
    private final int[] found = new int[6];
    private int finding, asked;
    private BigInteger upper = BigInteger.ZERO, lower = BigInteger.ONE;

    Model() {
        for (int k = 0; k < 3; k++) {
            kept.add(null);
        }
    }

    private int finds(int f) {
        found[f]++;
        finding = f;
        return FINDING;
    }

    private int tells(int v) {
        asked = v;
        return 1;
    }

    private State now() {
        return story.get(story.size() - 1);
    }

    private int pieces() {
        return now().pieces.size();
    }

    private boolean within(int v, int least, int most) {
        return v >= least && v <= most;
    }

    private boolean isPiece(int i) {
        return within(i, 0, pieces() - 1);
    }

    private int heatOn(int day) {
        return heats.charAt(day % heats.length()) - '0';
    }

    private State tomorrow(State s) {
        State t = s.copy();
        for (Piece p : t.pieces) {
            p.move(p.gain(heatOn(s.day)));
            p.touched = false;
        }
        t.day++;
        return t;
    }

    /** States 0 .. n DAYS from one. */
    private List<State> days(State from, int n) {
        List<State> all = new ArrayList<>();
        State s = from;
        all.add(s);
        for (int d = 0; d < n && pieces() > 0; d++) {
            s = tomorrow(s);
            all.add(s);
        }
        return all;
    }

    private State after(int n) {
        List<State> all = days(now(), n);
        return all.get(all.size() - 1);
    }

    private List<Integer> pairs(State s) {
        List<Integer> pairs = new ArrayList<>();
        for (int i = 0; i < s.pieces.size(); i++) {
            for (int j = i + 1; j < s.pieces.size(); j++) {
                if (s.pieces.get(i).meets(s.pieces.get(j))) {
                    pairs.add(6 * i + j);
                }
            }
        }
        return pairs;
    }

    // ---- 1

    int row(int r, int n) {
        if (!within(r, 0, 5) || n > 40) {
            return BAD;
        }
        if (n < 0) {
            return finds(5);
        }
        rows[r] = new int[n];
        return n;
    }

    int lay(int r, int i, int v) {
        int a = at0(r, i);
        if (a != 1) {
            return a;
        }
        tells(rows[r][i]);
        rows[r][i] = v;
        return 1;
    }

    private int at0(int r, int i) {
        return !within(r, 0, 5) ? BAD : rows[r] == null ? finds(1) : !within(i, 0, rows[r].length - 1) ? finds(2) : 1;
    }

    int at(int r, int i) {
        int a = at0(r, i);
        return a != 1 ? a : tells(rows[r][i]);
    }

    int tear(int r) {
        if (!within(r, 0, 5)) {
            return BAD;
        }
        if (rows[r] == null) {
            return finds(1);
        }
        rows[r] = null;
        return 1;
    }

    int copy(int r, int i, int to, int j, int n) {
        if (!within(r, 0, 5) || !within(to, 0, 5)) {
            return BAD;
        }
        if (n < 0) {
            return finds(5);
        }
        if (rows[r] == null || rows[to] == null) {
            return finds(1);
        }
        if (i < 0 || j < 0 || (long) i + n > rows[r].length || (long) j + n > rows[to].length) {
            return finds(2);
        }
        int[] ahead = rows[r].clone();
        for (int k = 0; k < n; k++) {
            rows[to][j + k] = ahead[i + k];
        }
        return 1;
    }

    int mean(int r) {
        if (!within(r, 0, 5)) {
            return BAD;
        }
        if (rows[r] == null) {
            return finds(1);
        }
        if (rows[r].length == 0) {
            return finds(4);
        }
        BigInteger sum = BigInteger.ZERO;
        for (int v : rows[r]) {
            sum = sum.add(BigInteger.valueOf(v));
        }
        return tells(sum.divide(BigInteger.valueOf(rows[r].length)).intValue());
    }

    int text(int t, int n) {
        if (!within(t, 0, 3) || n > 60) {
            return BAD;
        }
        if (n < 0) {
            return finds(5);
        }
        texts[t] = " ".repeat(n).getBytes();
        return n;
    }

    int put(int t, int i, int v) {
        if (!within(t, 0, 3)) {
            return BAD;
        }
        if (texts[t] == null) {
            return finds(1);
        }
        if (!within(i, 0, texts[t].length - 1)) {
            return finds(2);
        }
        int was = texts[t][i];
        texts[t][i] = (byte) v;
        return was + 1000;
    }

    private static final Pattern HOUSE = Pattern.compile(" *z[0-3]{1,7} *([ckbsmr][0-5][0-9][0-9][0-3] *){1,6}");

    /** The first place at which no ending could make a HOUSE of what stands up to it. */
    private int faultOf(String text) {
        if (HOUSE.matcher(text).matches()) {
            return NONE;
        }
        for (int k = 1; k <= text.length(); k++) {
            java.util.regex.Matcher m = HOUSE.matcher(text.substring(0, k));
            if (!m.matches() && !m.hitEnd()) {
                return k - 1;
            }
        }
        return text.length();
    }

    private String textOf(int t) {
        StringBuilder b = new StringBuilder();
        for (byte v : texts[t]) {
            b.append((char) (v & 255));
        }
        return b.toString();
    }

    int fault(int t) {
        return !within(t, 0, 3) ? BAD : texts[t] == null ? finds(1) : faultOf(textOf(t));
    }

    int house(int t) {
        int fault = fault(t);
        if (!within(t, 0, 3) || texts[t] == null) {
            return fault;
        }
        if (fault != NONE) {
            return STATE;
        }
        String plain = textOf(t).replace(" ", "");
        int k = 1;
        while (Character.isDigit(plain.charAt(k))) {
            k++;
        }
        heats = plain.substring(1, k);
        State s = new State();
        for (; k < plain.length(); k += 5) {
            Piece p = new Piece();
            p.kind = LETTERS.indexOf(plain.charAt(k));
            p.minute = Integer.parseInt(plain.substring(k + 1, k + 3));
            p.rate = plain.charAt(k + 3) - '4';
            p.floor = plain.charAt(k + 4) - '0';
            s.pieces.add(p);
        }
        story = new ArrayList<>(List.of(s));
        for (int q = 0; q < 3; q++) {
            kept.set(q, null);
        }
        return pieces();
    }

    private int part(int i, int what) {
        Piece p = now().pieces.get(i);
        return new int[] {p.kind, p.minute, p.rate, p.floor, p.strikes(), p.touched ? 1 : 0}[what];
    }

    int piece(int i, int what) {
        return !isPiece(i) || !within(what, 0, 5) ? BAD : tells(part(i, what));
    }

    private static boolean is(int kind, int other) {
        return kind == other || other == 0 || kind == 4 && other == 1 || kind == 5 && other == 2;
    }

    int mark(int i, int kind) {
        if (!isPiece(i) || !within(kind, 1, 5)) {
            return BAD;
        }
        Piece p = now().pieces.get(i);
        if (!is(p.kind, kind)) {
            return finds(3);
        }
        int many = 0;
        switch (kind) {
            case 1:
                return (p.minute + p.strikes() - 1) % 60;
            case 2:
                return p.gain(heatOn(now().day));
            case 3:
                for (int j = 0; j < pieces(); j++) {
                    boolean visits = false;
                    for (State s : days(now(), 59)) {
                        visits |= j != i && s.pieces.get(j).minute == p.minute;
                    }
                    many += visits ? 1 : 0;
                }
                return many;
            case 4:
                for (int j = 0; j < pieces(); j++) {
                    many += j != i && p.meets(now().pieces.get(j)) ? 1 : 0;
                }
                return many;
            default:
                for (int d = 0; d < 7; d++) {
                    many += p.gain(heatOn(now().day + d)) == 0 ? 1 : 0;
                }
                return many;
        }
    }

    int heat(int day) {
        return !within(day, 0, 999) ? BAD : pieces() == 0 ? STATE : heatOn(day);
    }

    // ---- 2

    private int deeds() {
        return story.size() - 1;
    }

    int day() {
        if (pieces() == 0) {
            return STATE;
        }
        if (deeds() == 40) {
            return FULL;
        }
        story.add(tomorrow(now()));
        return pairs(now()).size();
    }

    int touch(int i, int by) {
        if (!isPiece(i) || by == 0 || !within(by, -5, 5)) {
            return BAD;
        }
        if (now().pieces.get(i).touched) {
            return STATE;
        }
        if (deeds() == 40) {
            return FULL;
        }
        State s = now().copy();
        s.pieces.get(i).move(by);
        s.pieces.get(i).touched = true;
        story.add(s);
        return s.pieces.get(i).minute;
    }

    int undo(int n) {
        if (!within(n, 0, deeds())) {
            return BAD;
        }
        int undone = deeds() - n;
        story = new ArrayList<>(story.subList(0, n + 1));
        return undone;
    }

    int keep(int k) {
        if (!within(k, 0, 2)) {
            return BAD;
        }
        if (pieces() == 0) {
            return STATE;
        }
        kept.set(k, new ArrayList<>(story));
        return deeds();
    }

    int on(int k) {
        if (!within(k, 0, 2)) {
            return BAD;
        }
        if (kept.get(k) == null) {
            return finds(1);
        }
        story = new ArrayList<>(kept.get(k));
        return deeds();
    }

    // ---- 3

    int minute(int i, int n) {
        return !isPiece(i) || !within(n, 0, 420) ? BAD : after(n).pieces.get(i).minute;
    }

    private boolean isPair(int i, int j) {
        return isPiece(i) && isPiece(j) && i != j;
    }

    int meet(int i, int j) {
        if (!isPair(i, j)) {
            return BAD;
        }
        List<State> all = days(now(), 420);
        for (int d = 0; d <= 420; d++) {
            if (all.get(d).pieces.get(i).meets(all.get(d).pieces.get(j))) {
                return d;
            }
        }
        return NONE;
    }

    int meets(int n) {
        if (!within(n, 0, 420)) {
            return BAD;
        }
        List<Integer> pairs = pairs(after(n));
        int set = 0;
        for (int pair : pairs) {
            set |= 1 << pair / 6 | 1 << pair % 6;
        }
        tells(set);
        return pairs.size();
    }

    int soon() {
        int d = 0;
        for (State s : days(now(), 420)) {
            List<Integer> pairs = pairs(s);
            if (!pairs.isEmpty()) {
                tells(pairs.get(0));
                return d;
            }
            d++;
        }
        return NONE;
    }

    int often(int i, int j, int n) {
        if (!isPair(i, j) || !within(n, 0, 420)) {
            return BAD;
        }
        int times = 0;
        for (State s : days(now(), n)) {
            times += s.pieces.get(i).meets(s.pieces.get(j)) ? 1 : 0;
        }
        return times;
    }

    private boolean sounds(State s, int m) {
        for (Piece p : s.pieces) {
            if (p.strikesAt(m)) {
                return true;
            }
        }
        return false;
    }

    int sounds(int n) {
        if (!within(n, 0, 420)) {
            return BAD;
        }
        State s = after(n);
        int many = 0;
        for (int m = 0; m < 60; m++) {
            many += sounds(s, m) ? 1 : 0;
        }
        return many;
    }

    int room(int n, int w) {
        if (!within(n, 0, 420) || !within(w, 1, 9)) {
            return BAD;
        }
        State s = after(n);
        int many = 0;
        int first = NONE;
        for (int m = 0; m < 60; m++) {
            boolean silent = true;
            for (int k = 0; k < w; k++) {
                silent &= !sounds(s, (m + k) % 60);
            }
            if (silent) {
                first = many == 0 ? m : first;
                many++;
            }
        }
        tells(many);
        return first;
    }

    int right(int i, int minute, int n) {
        if (!isPiece(i) || !within(minute, 0, 59) || !within(n, 0, 420)) {
            return BAD;
        }
        int times = 0;
        for (State s : days(now(), n)) {
            times += s.pieces.get(i).minute == minute ? 1 : 0;
        }
        return times;
    }

    // ---- 4

    private boolean noneMeet(State from, int n) {
        for (State s : days(from, n)) {
            if (!pairs(s).isEmpty()) {
                return false;
            }
        }
        return true;
    }

    /** All rows of -2 .. 2 that keep all apart, less ahead of more. */
    private List<int[]> allWays(int n) {
        List<int[]> ways = new ArrayList<>();
        int all = (int) Math.round(Math.pow(5, pieces()));
        for (int code = 0; code < all; code++) {
            int[] row = new int[pieces()];
            int rest = code;
            State s = now().copy();
            for (int i = pieces() - 1; i >= 0; i--) {
                row[i] = rest % 5 - 2;
                rest /= 5;
                s.pieces.get(i).move(row[i]);
            }
            if (noneMeet(s, n)) {
                ways.add(row);
            }
        }
        return ways;
    }

    private static int touched(int[] row) {
        int many = 0;
        for (int v : row) {
            many += v != 0 ? 1 : 0;
        }
        return many;
    }

    int apart(int n, int r) {
        if (!within(n, 0, 7) || !within(r, 0, 5)) {
            return BAD;
        }
        if (pieces() == 0) {
            return STATE;
        }
        int[] best = null;
        for (int[] row : allWays(n)) {
            if (best == null || touched(row) < touched(best)) {
                best = row;
            }
        }
        if (best == null) {
            return NONE;
        }
        rows[r] = best.clone();
        return touched(best);
    }

    int stairs(int n) {
        if (!within(n, 0, 7)) {
            return BAD;
        }
        if (pieces() == 0) {
            return STATE;
        }
        int[] best = null;
        for (int[] row : allWays(n)) {
            int[] told = {0, touched(row), 0};
            for (int i = 0; i < row.length; i++) {
                if (row[i] != 0) {
                    told[0] = Math.max(told[0], 2 * now().pieces.get(i).floor);
                    told[2] += 1 << i;
                }
            }
            if (best == null || java.util.Arrays.compare(told, best) < 0) {
                best = told;
            }
        }
        if (best == null) {
            return NONE;
        }
        tells(best[2]);
        return best[0];
    }

    int doomed(int n) {
        if (!within(n, 0, 60)) {
            return BAD;
        }
        int many = 0;
        int first = NONE;
        for (int i = 0; i < pieces(); i++) {
            for (int j = i + 1; j < pieces(); j++) {
                boolean doomed = true;
                for (int a = -2; a <= 2; a++) {
                    for (int b = -2; b <= 2; b++) {
                        State s = new State();
                        s.day = now().day;
                        s.pieces.add(now().pieces.get(i).copy());
                        s.pieces.add(now().pieces.get(j).copy());
                        s.pieces.get(0).move(a);
                        s.pieces.get(1).move(b);
                        doomed = doomed && !noneMeet(s, n);
                    }
                }
                if (doomed) {
                    first = many == 0 ? 6 * i + j : first;
                    many++;
                }
            }
        }
        tells(first);
        return many;
    }

    int out(int n) {
        if (!within(n, 0, 60)) {
            return BAD;
        }
        int best = -1;
        for (int set = 0; set < 1 << pieces(); set++) {
            State s = new State();
            s.day = now().day;
            for (int i = 0; i < pieces(); i++) {
                if ((set >> i & 1) == 0) {
                    s.pieces.add(now().pieces.get(i));
                }
            }
            if (noneMeet(s, n) && (best < 0 || Integer.bitCount(set) < Integer.bitCount(best))) {
                best = set;
            }
        }
        tells(best);
        return Integer.bitCount(best);
    }

    // ---- 5

    int late(int r) {
        if (!within(r, 0, 5)) {
            return BAD;
        }
        if (pieces() == 0) {
            return STATE;
        }
        if (rows[r] == null) {
            return finds(1);
        }
        if (rows[r].length != pieces()) {
            return finds(5);
        }
        for (int v : rows[r]) {
            if (!within(v, 0, 59)) {
                return finds(3);
            }
        }
        int set = 0;
        int once = 1;
        for (int i = 0; i < pieces(); i++) {
            if (rows[r][i] == now().pieces.get(i).minute) {
                continue;
            }
            set |= 1 << i;
            boolean can = false;
            for (int by = -5; by <= 5; by++) {
                Piece p = now().pieces.get(i).copy();
                p.move(by);
                can |= p.minute == rows[r][i];
            }
            once = can ? once : 0;
        }
        tells(once);
        return set;
    }

    private int heardRefusal(int i, int r) {
        if (!isPiece(i) || !within(r, 0, 5)) {
            return BAD;
        }
        if (rows[r] == null) {
            return finds(1);
        }
        if (rows[r].length % 2 == 1) {
            return finds(5);
        }
        for (int k = 0; k < rows[r].length; k += 2) {
            if (!within(rows[r][k], 0, 60) || !within(rows[r][k + 1], 0, 59)) {
                return finds(3);
            }
        }
        return 0;
    }

    private boolean canBe(Piece p, int r) {
        State s = new State();
        s.day = now().day;
        s.pieces.add(p);
        List<State> all = days(s, 60);
        for (int k = 0; k < rows[r].length; k += 2) {
            if (all.get(rows[r][k]).pieces.get(0).minute != rows[r][k + 1]) {
                return false;
            }
        }
        return true;
    }

    int rates(int i, int r) {
        int refusal = heardRefusal(i, r);
        if (refusal != 0) {
            return refusal;
        }
        int set = 0;
        for (int rate = -4; rate <= 5; rate++) {
            Piece p = now().pieces.get(i).copy();
            p.rate = rate;
            set |= canBe(p, r) ? 1 << rate + 4 : 0;
        }
        return set;
    }

    int kinds(int i, int r) {
        int refusal = heardRefusal(i, r);
        if (refusal != 0) {
            return refusal;
        }
        int set = 0;
        for (int kind = 0; kind <= 5; kind++) {
            Piece p = now().pieces.get(i).copy();
            p.kind = kind;
            set |= canBe(p, r) ? 1 << kind : 0;
        }
        return set;
    }

    int from(int i, int r) {
        int refusal = heardRefusal(i, r);
        if (refusal != 0) {
            return refusal;
        }
        int many = 0;
        int first = NONE;
        for (int m = 0; m < 60; m++) {
            Piece p = now().pieces.get(i).copy();
            p.minute = m;
            if (canBe(p, r)) {
                first = many == 0 ? m : first;
                many++;
            }
        }
        tells(first);
        return many;
    }

    // ---- 6

    private boolean apartAtEnd(State s, int left) {
        if (left == 0) {
            return pairs(s).isEmpty();
        }
        boolean any = false;
        boolean all = true;
        for (int i = 0; i < pieces(); i++) {
            for (int by = -1; by <= 1; by += 2) {
                State t = s.copy();
                t.pieces.get(i).move(by);
                boolean apart = apartAtEnd(t, left - 1);
                any |= apart;
                all &= apart;
            }
        }
        return left % 2 == 0 ? any : all;
    }

    int cat(int n) {
        return !within(n, 0, 2) ? BAD : pieces() == 0 ? STATE : apartAtEnd(now(), 2 * n) ? 1 : 0;
    }

    int first(int n) {
        if (!within(n, 1, 2)) {
            return BAD;
        }
        if (pieces() == 0) {
            return STATE;
        }
        for (int i = 0; i < pieces(); i++) {
            for (int by = 1; by >= -1; by -= 2) {
                State t = now().copy();
                t.pieces.get(i).move(by);
                if (apartAtEnd(t, 2 * n - 1)) {
                    return 2 * i + (by == 1 ? 0 : 1);
                }
            }
        }
        return NONE;
    }

    // ---- 7

    private void tellChances(BigInteger up, BigInteger low) {
        BigInteger shared = up.gcd(low);
        upper = up.divide(shared);
        lower = low.divide(shared);
    }

    /** All ways in which DRAUGHTS come to the two DAY by DAY. */
    private BigInteger waysToMeet(Piece a, Piece b, int day, int left, int p) {
        if (left == 0) {
            return a.meets(b) ? BigInteger.ONE : BigInteger.ZERO;
        }
        BigInteger sum = BigInteger.ZERO;
        for (int both = 0; both < 4; both++) {
            Piece c = a.copy();
            Piece d = b.copy();
            c.move(c.gain(heatOn(day)) + (c.kind == 3 ? 0 : both / 2));
            d.move(d.gain(heatOn(day)) + (d.kind == 3 ? 0 : both % 2));
            int weight = (both / 2 == 1 ? p : 12 - p) * (both % 2 == 1 ? p : 12 - p);
            sum = sum.add(BigInteger.valueOf(weight).multiply(waysToMeet(c, d, day + 1, left - 1, p)));
        }
        return sum;
    }

    int odds(int i, int j, int n, int p) {
        if (!isPair(i, j) || !within(n, 0, 6) || !within(p, 0, 12)) {
            return BAD;
        }
        tellChances(waysToMeet(now().pieces.get(i), now().pieces.get(j), now().day, n, p), BigInteger.valueOf(144).pow(n));
        return 1;
    }

    int mid(int i, int n, int p) {
        if (!isPiece(i) || !within(n, 0, 60) || !within(p, 0, 12)) {
            return BAD;
        }
        tellChances(BigInteger.valueOf(now().pieces.get(i).kind == 3 ? 0 : n * p), BigInteger.valueOf(12));
        return 1;
    }

    int lots(int n, int seed) {
        if (!within(n, 1, 20) || !within(seed, 1, 2147483646)) {
            return BAD;
        }
        if (pieces() == 0) {
            return STATE;
        }
        if (deeds() + 2 * n > 40) {
            return FULL;
        }
        BigInteger lot = BigInteger.valueOf(seed);
        int answer = 0;
        for (int d = 0; d < n; d++) {
            lot = lot.multiply(BigInteger.valueOf(48271)).mod(BigInteger.valueOf(2147483647));
            int v = lot.intValue();
            if (v / 8 % 2 == 0) {
                touch(v % pieces(), 1);
            }
            answer = day();
        }
        return answer;
    }

    // ---- 8

    int asked() {
        return asked;
    }

    long upper() {
        return upper.longValueExact();
    }

    long lower() {
        return lower.longValueExact();
    }

    int count(int what) {
        int many = 0;
        switch (what) {
            case 0:
                return pieces();
            case 1:
                return now().day;
            case 2:
                return deeds();
            case 3:
                return pairs(now()).size();
            case 4:
            case 5:
                for (Piece p : now().pieces) {
                    many += is(p.kind, what - 3) ? 1 : 0;
                }
                return many;
            case 6:
                for (int[] row : rows) {
                    many += row != null ? 1 : 0;
                }
                return many;
            case 7:
                for (byte[] text : texts) {
                    many += text != null ? 1 : 0;
                }
                return many;
            case 8:
                for (List<State> k : kept) {
                    many += k != null ? 1 : 0;
                }
                return many;
            default:
                return BAD;
        }
    }

    int finding() {
        return finding;
    }

    int findings(int f) {
        return within(f, 1, 5) ? found[f] : BAD;
    }

    long digest() {
        List<Integer> all = new ArrayList<>();
        for (int what = 0; what <= 8; what++) {
            all.add(count(what));
        }
        for (int i = 0; i < pieces(); i++) {
            for (int what = 0; what <= 5; what++) {
                all.add(part(i, what));
            }
        }
        for (List<State> k : kept) {
            all.add(k == null ? -1 : k.size() - 1);
        }
        for (int[] row : rows) {
            all.add(row == null ? -1 : row.length);
            for (int k = 0; row != null && k < row.length; k++) {
                all.add(row[k]);
            }
        }
        for (byte[] text : texts) {
            all.add(text == null ? -1 : text.length);
            for (int k = 0; text != null && k < text.length; k++) {
                all.add((int) text[k]);
            }
        }
        long h = 17;
        for (int v : all) {
            h = 31 * h + v;
        }
        return h;
    }
}
