import java.math.BigInteger;
import java.util.ArrayList;
import java.util.Arrays;
import java.util.List;

/**
 * The document told again in the slowest plain way, by trying everything: ModelTest holds the class against it.
 * It shares no way of reckoning with the class.
 */
final class Model {
    static final class Way implements Cloneable {
        int a, b, length, slope;
        boolean gate;

        Way copy() {
            Way w = new Way();
            w.a = a; w.b = b; w.length = length; w.slope = slope; w.gate = gate;
            return w;
        }
    }

    static final class One {
        int home, kind, ring, place, gates;
        long in, out;

        One copy() {
            One o = new One();
            o.home = home; o.kind = kind; o.ring = ring; o.place = place; o.gates = gates; o.in = in; o.out = out;
            return o;
        }
    }

    static final class State {
        List<Way> ways = new ArrayList<>();
        List<One> people = new ArrayList<>();
        int[][] owed = new int[8][8];
        List<Integer> errands = new ArrayList<>();
        int[] given = {400, 300, 500, 900};
        int law;
        long spent;

        State copy() {
            State s = new State();
            for (Way w : ways) s.ways.add(w.copy());
            for (One o : people) s.people.add(o.copy());
            for (int i = 0; i < 8; i++) s.owed[i] = owed[i].clone();
            s.errands.addAll(errands);
            s.given = given.clone();
            s.law = law;
            s.spent = spent;
            return s;
        }
    }

    State s = new State();
    State image;
    String tape = "";
    Object[] sheets = new Object[4];

    // ---- 1

    int way(int from, int to, int length, int slope) {
        if (!place(from) || !place(to) || from == to || length < 1 || length > 99 || slope < -9 || slope > 9) return -1;
        if (s.ways.size() == 24) return -3;
        Way w = new Way();
        w.a = from; w.b = to; w.length = length; w.slope = slope;
        s.ways.add(w);
        return s.ways.size() - 1;
    }

    int gate(int way, boolean is) {
        if (way < 0 || way >= s.ways.size()) return -1;
        boolean was = s.ways.get(way).gate;
        s.ways.get(way).gate = is;
        return was ? 1 : 0;
    }

    int told(int way, int what) {
        if (way < 0 || way >= s.ways.size() || what < 0 || what > 4) return -100001;
        Way w = s.ways.get(way);
        return new int[] {w.a, w.b, w.length, w.slope, w.gate ? 1 : 0}[what];
    }

    int person(int home, int kind, int ring) {
        if (!place(home) || kind < 0 || kind > 3 || ring < 0 || ring > 99999) return -1;
        if (s.people.size() == 8) return -3;
        s.people.add(one(home, kind, ring));
        return s.people.size() - 1;
    }

    int of(int person, int what) {
        if (!is(person) || what < 0 || what > 4) return -1;
        One o = s.people.get(person);
        return new int[] {o.home, o.kind, o.ring, o.place, o.gates}[what];
    }

    int costs(int person, int way, int from) {
        if (!is(person) || way < 0 || way >= s.ways.size() || from < 0 || from > 1) return -1;
        return cost(s.people.get(person).kind, s.ways.get(way), from == 0);
    }

    int far(int person, int from, int to) {
        if (!is(person) || !place(from) || !place(to)) return -1;
        Integer f = dist(s.people.get(person).kind, from)[to];
        return f == null ? -4 : f;
    }

    int given(int kind, int v) {
        if (kind < 0 || kind > 3 || v < 0 || v > 9999) return -1;
        int was = s.given[kind];
        s.given[kind] = v;
        return was;
    }

    int rule(int v) {
        if (v < 0 || v > 2) return -1;
        int was = s.law;
        s.law = v;
        return was;
    }

    int type(long w, int n) {
        if (n < 1 || n > 8) return -1;
        byte[] all = new byte[8];
        for (int i = 7; i >= 0; i--) {
            all[i] = (byte) w;
            w >>>= 8;
        }
        StringBuilder text = new StringBuilder();
        for (int i = 8 - n; i < 8; i++) {
            if (all[i] < 32 || all[i] > 126) return -1;
            text.append((char) all[i]);
        }
        if (tape.length() + n > 160) return -3;
        tape += text;
        return tape.length();
    }

    int town() {
        String text = tape;
        tape = "";
        List<Way> ways = new ArrayList<>();
        int fault = read(text, true, ways, null);
        if (fault >= 0) return -20 - fault;
        s.ways = ways;
        return ways.size();
    }

    int people() {
        String text = tape;
        tape = "";
        List<One> people = new ArrayList<>();
        int fault = read(text, false, null, people);
        if (fault >= 0) return -20 - fault;
        s.people = people;
        s.owed = new int[8][8];
        return people.size();
    }

    int count(int what) {
        switch (what) {
            case 0: return s.ways.size();
            case 1: return s.people.size();
            case 2: return s.errands.size();
            case 3: return s.people.stream().mapToInt(o -> o.ring).sum();
            case 4: return Arrays.stream(s.owed).mapToInt(r -> Arrays.stream(r).sum()).sum();
            case 5: return (int) Math.min(1000000000L, s.spent);
            default: return -1;
        }
    }

    // ---- 2

    int go(int person, int place) {
        if (!is(person) || !place(place)) return -1;
        One o = s.people.get(person);
        Integer f = dist(o.kind, o.place)[place];
        if (f == null) return -4;
        if (f > o.ring) return -2;
        walk(o, place, f, 1);
        return o.ring;
    }

    int carry(int person, int other, int place) {
        if (!is(person) || !is(other) || person == other || !place(place)) return -1;
        One o = s.people.get(person);
        One c = s.people.get(other);
        if (o.place != c.place) return -2;
        Integer f = dist(o.kind, o.place)[place];
        if (f == null) return -4;
        if (2 * f > o.ring) return -3;
        walk(o, place, f, 2);
        c.place = place;
        return o.ring;
    }

    int lend(int from, int to, int n) {
        if (!is(from) || !is(to) || from == to || n < 1 || n > 99999) return -1;
        if (s.people.get(from).ring < n) return -2;
        hand(from, to, n);
        s.owed[to][from] += n;
        return s.people.get(from).ring;
    }

    int pay(int from, int to, int n) {
        if (!is(from) || !is(to) || from == to || n < 1 || n > 99999) return -1;
        if (s.people.get(from).ring < n || s.owed[from][to] < n) return -2;
        hand(from, to, n);
        s.owed[from][to] -= n;
        return s.people.get(from).ring;
    }

    int owes(int from, int to) {
        return !is(from) || !is(to) || from == to ? -1 : s.owed[from][to];
    }

    int month() {
        int paid = 0;
        for (int a = 0; a < s.people.size(); a++) {
            for (int b = 0; b < s.people.size(); b++) {
                if (a == b) continue;
                int n = Math.min(s.people.get(a).ring, s.owed[a][b]);
                hand(a, b, n);
                s.owed[a][b] -= n;
                paid += n;
            }
        }
        for (One o : s.people) {
            int gets = s.given[o.kind];
            if (s.law == 0) o.ring = gets;
            if (s.law == 1) o.ring = Math.min(99999, o.ring + gets);
            if (s.law == 2) o.ring = o.ring / 2 + gets;
            o.place = o.home;
            o.gates = 0;
            o.in = 0;
            o.out = 0;
        }
        return paid;
    }

    // ---- 3

    int meet(int a, int b, int what) {
        if (!is(a) || !is(b) || a == b || what < 0 || what > 1) return -1;
        One one = s.people.get(a);
        One two = s.people.get(b);
        int[] best = null;
        for (int p = 11; p >= 0; p--) {
            Integer f = dist(one.kind, one.place)[p];
            Integer g = dist(two.kind, two.place)[p];
            if (f != null && g != null && (best == null || f + g <= best[1])) best = new int[] {p, f + g};
        }
        return best == null ? -4 : best[what];
    }

    int errand(int place) {
        if (!place(place)) return -1;
        if (s.errands.size() == 6) return -3;
        s.errands.add(place);
        return s.errands.size() - 1;
    }

    int rest() {
        int n = s.errands.size();
        s.errands.clear();
        return n;
    }

    int parted(int set) {
        if (set <= 0 || set >= 1 << s.people.size()) return -1;
        List<Integer> legs = new ArrayList<>();
        for (int p = 0; p < 8; p++) if ((set >> p & 1) != 0) legs.add(p);
        int n = s.errands.size();
        Integer[][] tours = new Integer[legs.size()][1 << n];
        for (int l = 0; l < legs.size(); l++) {
            for (int m = 1; m < 1 << n; m++) {
                List<Integer> row = bestTour(s.people.get(legs.get(l)), m);
                tours[l][m] = row == null ? null : row.get(row.size() - 1);
            }
            tours[l][0] = 0;
        }
        long least = Long.MAX_VALUE;
        int[] whose = new int[n];
        for (boolean more = true; more; ) {
            int[] masks = new int[legs.size()];
            for (int e = 0; e < n; e++) masks[whose[e]] |= 1 << e;
            long sum = 0;
            for (int l = 0; l < legs.size() && sum < Long.MAX_VALUE; l++) {
                sum = tours[l][masks[l]] == null ? Long.MAX_VALUE : sum + tours[l][masks[l]];
            }
            least = Math.min(least, sum);
            int e = 0;
            while (e < n && ++whose[e] == legs.size()) whose[e++] = 0;
            more = e < n;
        }
        return least == Long.MAX_VALUE ? -4 : (int) least;
    }

    int tour(int person, int i) {
        if (!is(person) || i < -1 || i > 5) return -1;
        List<Integer> row = bestTour(s.people.get(person), (1 << s.errands.size()) - 1);
        if (row == null || i >= s.errands.size()) return -4;
        return i < 0 ? row.get(row.size() - 1) : row.get(i);
    }

    int wells(int k, int worst, int i) {
        if (k < 1 || k > 3 || worst < 0 || worst > 99999 || i < -1 || i >= k) return -1;
        if (s.people.isEmpty()) return -4;
        List<Integer[]> homes = new ArrayList<>();
        for (One o : s.people) homes.add(dist(o.kind, o.home));
        int[] best = null;
        int least = 0;
        for (int set = 0; set < 1 << 12; set++) {
            if (Integer.bitCount(set) != k) continue;
            int[] row = new int[k];
            for (int p = 0, j = 0; p < 12; p++) if ((set >> p & 1) != 0) row[j++] = p;
            int sum = 0;
            boolean good = true;
            for (Integer[] f : homes) {
                Integer near = null;
                for (int p : row) if (f[p] != null && (near == null || f[p] < near)) near = f[p];
                good &= near != null && near <= worst;
                sum += near == null ? 0 : near;
            }
            if (good && (best == null || sum < least || sum == least && Arrays.compare(row, best) < 0)) {
                best = row;
                least = sum;
            }
        }
        return best == null ? -4 : i < 0 ? least : best[i];
    }

    int hold(int person, int place, int steps) {
        if (!is(person) || !place(place) || steps < 0 || steps > 99999) return -1;
        int set = 0;
        Integer[] f = dist(s.people.get(person).kind, place);
        for (int p = 0; p < 12; p++) if (f[p] != null && f[p] <= steps) set += 1 << p;
        return set;
    }

    /** The least number of ways that lead out of any set of places that has the one and not the other. */
    int stops(int from, int to) {
        if (!place(from) || !place(to) || from == to) return -1;
        int least = 24;
        for (int set = 0; set < 1 << 12; set++) {
            if ((set >> from & 1) == 0 || (set >> to & 1) != 0) continue;
            int out = 0;
            for (Way w : s.ways) out += (set >> w.a & 1) != (set >> w.b & 1) ? 1 : 0;
            least = Math.min(least, out);
        }
        return least;
    }

    int image() {
        image = s.copy();
        return 1;
    }

    int restore() {
        if (image == null) return -4;
        s = image.copy();
        return 1;
    }

    // ---- 4

    int lies(int sheet, int lane, int from) {
        int refused = refused(sheet, lane, from, s.people.size());
        if (refused != 0) return refused;
        int set = 0;
        for (int p = 0; p < s.people.size(); p++) {
            One o = s.people.get(p);
            long told = java.lang.reflect.Array.getLong(sheets[sheet], from + p);
            BigInteger spent = BigInteger.valueOf(told).add(BigInteger.valueOf(o.in - o.out - o.ring));
            if (spent.compareTo(BigInteger.valueOf(o.gates)) < 0) set += 1 << p;
        }
        return set;
    }

    int sheet(int sheet, int lane, int n) {
        if (sheet < 0 || sheet > 3 || lane < 0 || lane > 2 || n > 24) return -1;
        if (n < 0) return -14;
        sheets[sheet] = lane == 0 ? new short[n] : lane == 1 ? new int[n] : new long[n];
        return n;
    }

    int drop(int sheet) {
        if (sheet < 0 || sheet > 3) return -1;
        if (sheets[sheet] == null) return -11;
        int n = java.lang.reflect.Array.getLength(sheets[sheet]);
        sheets[sheet] = null;
        return n;
    }

    int item(int sheet, int lane, int i, long v) {
        int refused = refused(sheet, lane, i, 1);
        if (refused != 0) return refused;
        put(sheets[sheet], i, v);
        return 1;
    }

    int film(int sheet, int lane, int from) {
        int refused = refused(sheet, lane, from, s.people.size());
        if (refused != 0) return refused;
        for (int p = 0; p < s.people.size(); p++) put(sheets[sheet], from + p, s.people.get(p).ring);
        return s.people.size();
    }

    // ---- shared

    private static boolean place(int p) {
        return p >= 0 && p < 12;
    }

    private boolean is(int person) {
        return person >= 0 && person < s.people.size();
    }

    private static One one(int home, int kind, int ring) {
        One o = new One();
        o.home = home; o.place = home; o.kind = kind; o.ring = ring;
        return o;
    }

    private static int cost(int kind, Way w, boolean fromA) {
        int up = fromA ? w.slope : -w.slope;
        int grown = w.length;
        for (int floor = 0; floor < up; floor++) grown += 3;
        int old = grown;
        if (up > 0) old += w.length / 2;
        if (kind == 0) return grown;
        if (kind == 1) return grown + grown;
        if (kind == 2) return old;
        return old / 2 < 1 ? 1 : old / 2;
    }

    /** From one place to all, by going on as long as anything gets less; null: there is none. */
    private Integer[] dist(int kind, int from) {
        Integer[] d = new Integer[12];
        d[from] = 0;
        for (boolean less = true; less; ) {
            less = false;
            for (Way w : s.ways) {
                for (int end = 0; end < 2; end++) {
                    int at = end == 0 ? w.a : w.b;
                    int to = end == 0 ? w.b : w.a;
                    if (d[at] != null && (d[to] == null || d[at] + cost(kind, w, end == 0) < d[to])) {
                        d[to] = d[at] + cost(kind, w, end == 0);
                        less = true;
                    }
                }
            }
        }
        return d;
    }

    /** All rows of ways that cost just so much are tried, least numbers first: the first that leads there is gone. */
    private void walk(One o, int goal, int cost, int times) {
        List<int[]> row = new ArrayList<>();
        if (!find(o.kind, o.place, goal, cost, row)) throw new IllegalStateException("no row");
        for (int[] step : row) {
            o.ring -= times * step[1];
            s.spent += times * step[1];
            if (s.ways.get(step[0]).gate) o.gates += times * step[1];
        }
        o.place = goal;
    }

    private boolean find(int kind, int at, int goal, int left, List<int[]> row) {
        if (at == goal && left == 0) return true;
        for (int w = 0; w < s.ways.size(); w++) {
            Way way = s.ways.get(w);
            if (way.a != at && way.b != at) continue;
            int c = cost(kind, way, way.a == at);
            int next = way.a == at ? way.b : way.a;
            Integer on = dist(kind, next)[goal];
            if (on == null || c + on > left) continue;
            row.add(new int[] {w, c});
            if (find(kind, next, goal, left - c, row)) return true;
            row.remove(row.size() - 1);
        }
        return false;
    }

    private void hand(int from, int to, int n) {
        One a = s.people.get(from);
        One b = s.people.get(to);
        a.ring -= n;
        a.out += n;
        b.ring += n;
        b.in += n;
        if (b.ring > 99999) b.ring = 99999;
    }

    /** The best order of the errands of a set, and behind it the costs; null: there is none. */
    private List<Integer> bestTour(One o, int set) {
        Integer[][] d = new Integer[12][];
        for (int p = 0; p < 12; p++) d[p] = dist(o.kind, p);
        List<Integer> left = new ArrayList<>();
        for (int e = 0; e < s.errands.size(); e++) if ((set >> e & 1) != 0) left.add(e);
        List<List<Integer>> best = new ArrayList<>();
        permute(o, d, left, new ArrayList<>(), best);
        return best.isEmpty() ? null : best.get(0);
    }

    private void permute(One o, Integer[][] d, List<Integer> left, List<Integer> row, List<List<Integer>> best) {
        if (left.isEmpty()) {
            int at = o.place;
            int sum = 0;
            for (int e : row) {
                if (d[at][s.errands.get(e)] == null) return;
                sum += d[at][s.errands.get(e)];
                at = s.errands.get(e);
            }
            if (d[at][o.home] == null) return;
            sum += d[at][o.home];
            if (best.isEmpty() || sum < best.get(0).get(row.size())) {
                best.clear();
                best.add(new ArrayList<>(row));
                best.get(0).add(sum);
            }
            return;
        }
        for (int i = 0; i < left.size(); i++) {
            int e = left.remove(i);
            row.add(e);
            permute(o, d, left, row, best);
            row.remove(row.size() - 1);
            left.add(i, e);
        }
    }

    private static void put(Object row, int i, long v) {
        if (row instanceof short[]) ((short[]) row)[i] = (short) v;
        if (row instanceof int[]) ((int[]) row)[i] = (int) v;
        if (row instanceof long[]) ((long[]) row)[i] = v;
    }

    private int refused(int sheet, int lane, int from, int n) {
        if (sheet < 0 || sheet > 3 || lane < 0 || lane > 2) return -1;
        Object row = sheets[sheet];
        if (row == null) return -11;
        if (!(lane == 0 ? row instanceof short[] : lane == 1 ? row instanceof int[] : row instanceof long[])) return -12;
        if (from < 0 || (long) from + n > java.lang.reflect.Array.getLength(row)) return -13;
        return 0;
    }

    /**
     * Reads byte by byte, by what may stand next; the place of the fault, or -1.
     * States: 0 the first letter, 1 sign or second letter, 2 the digit, 3 the second letter (or the kind), 4 a number's
     * first digit, 5 in a number, 6 behind a number, 7 behind g.
     */
    private static int read(String text, boolean ofWays, List<Way> ways, List<One> people) {
        int state = 0, start = 0, most = ofWays ? 24 : 8, n = 0;
        Way w = new Way();
        One o = new One();
        int sign = 1;
        BigInteger number = BigInteger.ZERO;
        for (int i = 0; i <= text.length(); i++) {
            int c = i < text.length() ? text.charAt(i) : -1;
            if (state == 5 && (c < '0' || c > '9')) {
                int low = ofWays ? 1 : 0, high = ofWays ? 99 : 99999;
                if (number.compareTo(BigInteger.valueOf(low)) < 0 || number.compareTo(BigInteger.valueOf(high)) > 0) return start;
                w.length = number.intValue();
                o.ring = number.intValue();
                state = 6;
            }
            if (c == ' ') continue;
            boolean letter = c >= 'a' && c <= 'l';
            if (state == 0 && letter) {
                w.a = c - 'a';
                o.home = c - 'a';
                state = ofWays ? 1 : 3;
            } else if (state == 1 && (c == '+' || c == '-')) {
                sign = c == '+' ? 1 : -1;
                state = 2;
            } else if (state == 2 && c >= '0' && c <= '9') {
                w.slope = sign * (c - '0');
                state = 3;
            } else if (ofWays && (state == 1 || state == 3) && letter && c - 'a' != w.a) {
                w.b = c - 'a';
                state = 4;
            } else if (!ofWays && state == 3 && c > 0 && "gcop".indexOf(c) >= 0) {
                o.kind = "gcop".indexOf(c);
                state = 4;
            } else if ((state == 4 || state == 5) && c >= '0' && c <= '9') {
                if (state == 4) {
                    start = i;
                    number = BigInteger.ZERO;
                }
                number = number.multiply(BigInteger.TEN).add(BigInteger.valueOf(c - '0'));
                state = 5;
            } else if (state == 6 && ofWays && c == 'g') {
                w.gate = true;
                state = 7;
            } else if ((state == 6 || state == 7) && (c == -1 || c == ',' && n + 1 < most)) {
                n++;
                if (ofWays) ways.add(w); else people.add(one(o.home, o.kind, o.ring));
                w = new Way();
                state = 0;
                if (c == -1) return -1;
            } else {
                return i;
            }
        }
        return text.length();
    }
}
