import java.util.Random;

/** Long runs of calls, ordinary and wrong ones, each answered as the model answers it. All promises. */
final class ModelTest {
    private static final int RUNS = 1500;
    private static final int CALLS = 512;
    private static final int[] EDGES = {
        Integer.MIN_VALUE, Integer.MAX_VALUE, Integer.MAX_VALUE - 1, -100000, -2, -1, 0, 1, 2, 3, 4, 5, 6, 7, 8, 11, 12, 23, 24, 25, 99, 100,
        160, 255, 256, 9999, 10000, 99999, 100000, 65536};
    private static final long[] LONGS = {
        0, -1, 1, 32767, 32768, 65535, 99999, Long.MAX_VALUE, Long.MIN_VALUE, 1L << 32, 1L << 31, -(1L << 31), (1L << 53) - 1, -(1L << 53) + 1};

    private final Random random;
    private final StepRings x = new StepRings();
    private final Model m = new Model();
    private final StringBuilder calls = new StringBuilder();
    private boolean wrong;
    /** How often this run's arguments are wild, how long its ways are, how many places it keeps to. */
    private final int wild, longest, places;

    private ModelTest(long seed) {
        random = new Random(seed);
        wild = random.nextInt(3) == 0 ? 4 : 40;
        longest = random.nextInt(2) == 0 ? 4 : 99;
        places = random.nextInt(3) == 0 ? 12 : 3 + random.nextInt(5);
    }

    public static void main(String[] args) {
        int runs = args.length > 0 ? Integer.parseInt(args[0]) : RUNS;
        long first = args.length > 1 ? Long.parseLong(args[1]) : 1;
        long asked = 0;
        for (long seed = first; seed < first + runs; seed++) {
            ModelTest test = new ModelTest(seed);
            if (!test.run()) {
                System.out.println("run of seed " + seed + ":\n" + test.calls);
                System.exit(1);
            }
            asked += CALLS;
        }
        System.out.println(asked + " calls in " + runs + " runs are answered as the model answers them");
    }

    private boolean run() {
        begin();
        for (int i = 0; i < CALLS && !wrong; i++) {
            call();
        }
        return !wrong;
    }

    private void begin() {
        if (random.nextInt(4) == 0) {
            return;
        }
        int ways = random.nextInt(25);
        for (int i = 0; i < ways; i++) {
            makeWay();
        }
        int people = random.nextInt(9);
        for (int i = 0; i < people; i++) {
            makePerson();
        }
    }

    private void answered(String call, int got, int want) {
        calls.append(call).append(" answered ").append(got);
        if (got != want) {
            calls.append(", due is ").append(want);
            wrong = true;
        }
        calls.append('\n');
    }

    private boolean wild() {
        return random.nextInt(wild) == 0;
    }

    private int any(int least, int most) {
        return wild() ? EDGES[random.nextInt(EDGES.length)] : least + random.nextInt(most - least + 1);
    }

    private int place() {
        return any(0, places - 1);
    }

    private int person() {
        return any(0, Math.max(0, m.s.people.size() - 1));
    }

    private int steps() {
        return random.nextInt(4) == 0 ? any(0, 99999) : any(0, 60);
    }

    private int lane() {
        return random.nextInt(3) == 0 ? any(0, 2) : 1;
    }

    private void makeWay() {
        int a = place(), b = place(), l = any(1, longest), u = random.nextInt(2) == 0 ? 0 : any(-9, 9);
        answered("way(" + a + ", " + b + ", " + l + ", " + u + ")", x.way(a, b, l, u), m.way(a, b, l, u));
        if (random.nextInt(2) == 0) {
            makeGate();
        }
    }

    private void makeGate() {
        int w = any(0, Math.max(0, m.s.ways.size() - 1));
        boolean is = random.nextInt(3) > 0;
        answered("gate(" + w + ", " + is + ")", x.gate(w, is), m.gate(w, is));
    }

    private void makePerson() {
        int h = place(), k = any(0, 3), r = any(0, 99999);
        answered("person(" + h + ", " + k + ", " + r + ")", x.person(h, k, r), m.person(h, k, r));
    }

    private void call() {
        switch (random.nextInt(36)) {
            case 0: makeWay(); break;
            case 1: makeGate(); break;
            case 2: makePerson(); break;
            case 3: case 4: case 5: tell(); break;
            case 6: case 7: case 8: case 9: case 10: move(); break;
            case 11: case 12: case 13: case 14: case 15: hand(); break;
            case 16: case 17: case 18: case 19: houses(); break;
            case 20: case 21: case 22: runaways(); break;
            case 23: case 24: laws(); break;
            case 25: text(); break;
            case 26: images(); break;
            case 27: month(); break;
            default: sheets(); break;
        }
        lookAround();
    }

    /** Where the calls have led is seen soon, not only by the next call that happens to ask. */
    private void lookAround() {
        int p = person(), what = random.nextInt(5), c = random.nextInt(6);
        if (random.nextInt(2) == 0) {
            answered("of(" + p + ", " + what + ")", x.of(p, what), m.of(p, what));
        } else {
            answered("count(" + c + ")", x.count(c), m.count(c));
        }
    }

    private void tell() {
        int p = person(), w = any(0, Math.max(0, m.s.ways.size() - 1)), what = any(0, 4), a = place(), b = place(), end = any(0, 1);
        switch (random.nextInt(5)) {
            case 0: answered("told(" + w + ", " + what + ")", x.told(w, what), m.told(w, what)); break;
            case 1: answered("of(" + p + ", " + what + ")", x.of(p, what), m.of(p, what)); break;
            case 2: answered("costs(" + p + ", " + w + ", " + end + ")", x.costs(p, w, end), m.costs(p, w, end)); break;
            case 3: answered("far(" + p + ", " + a + ", " + b + ")", x.far(p, a, b), m.far(p, a, b)); break;
            default: answered("count(" + what + ")", x.count(what), m.count(what)); break;
        }
    }

    private void move() {
        int p = person(), q = person(), a = place();
        if (random.nextInt(3) > 0) {
            answered("go(" + p + ", " + a + ")", x.go(p, a), m.go(p, a));
        } else {
            answered("carry(" + p + ", " + q + ", " + a + ")", x.carry(p, q, a), m.carry(p, q, a));
        }
    }

    private void hand() {
        int p = person(), q = person(), n = steps();
        switch (random.nextInt(4)) {
            case 0: case 1: answered("lend(" + p + ", " + q + ", " + n + ")", x.lend(p, q, n), m.lend(p, q, n)); break;
            case 2: answered("pay(" + p + ", " + q + ", " + n + ")", x.pay(p, q, n), m.pay(p, q, n)); break;
            default: answered("owes(" + p + ", " + q + ")", x.owes(p, q), m.owes(p, q)); break;
        }
    }

    private void houses() {
        int p = person(), q = person(), what = any(0, 1), a = place(), i = any(-1, 5);
        int set = any(1, Math.max(1, (1 << m.s.people.size()) - 1));
        switch (random.nextInt(10)) {
            case 0: case 1: answered("meet(" + p + ", " + q + ", " + what + ")", x.meet(p, q, what), m.meet(p, q, what)); break;
            case 2: case 3: case 4: answered("errand(" + a + ")", x.errand(a), m.errand(a)); break;
            case 5: if (random.nextInt(4) == 0) answered("rest()", x.rest(), m.rest()); break;
            case 6: if (random.nextInt(8) == 0) answered("parted(" + set + ")", x.parted(set), m.parted(set)); break;
            default: answered("tour(" + p + ", " + i + ")", x.tour(p, i), m.tour(p, i)); break;
        }
    }

    private void runaways() {
        int p = person(), a = place(), b = place(), n = steps(), k = any(1, 3);
        switch (random.nextInt(3)) {
            case 0: {
                int worst = random.nextInt(2) == 0 ? any(0, 300) : 99999, i = any(-1, 2);
                answered("wells(" + k + ", " + worst + ", " + i + ")", x.wells(k, worst, i), m.wells(k, worst, i));
                break;
            }
            case 1: answered("hold(" + p + ", " + a + ", " + n + ")", x.hold(p, a, n), m.hold(p, a, n)); break;
            default: answered("stops(" + a + ", " + b + ")", x.stops(a, b), m.stops(a, b)); break;
        }
    }

    private void laws() {
        int k = any(0, 3), v = any(0, random.nextInt(2) == 0 ? 9999 : 50), r = any(0, 2);
        if (random.nextInt(2) == 0) {
            answered("given(" + k + ", " + v + ")", x.given(k, v), m.given(k, v));
        } else {
            answered("rule(" + r + ")", x.rule(r), m.rule(r));
        }
    }

    private void month() {
        answered("month()", x.month(), m.month());
    }

    private void images() {
        if (random.nextInt(2) == 0) {
            answered("image()", x.image(), m.image());
        } else {
            answered("restore()", x.restore(), m.restore());
        }
    }

    private void text() {
        boolean town = random.nextBoolean();
        String text = town ? townText() : peopleText();
        while (random.nextInt(3) == 0) {
            text = spoilt(text);
        }
        for (int i = 0; i < text.length(); ) {
            int n = 1 + random.nextInt(8);
            int end = Math.min(text.length(), i + n);
            type(Due.packed(text.substring(i, end)), end - i);
            i = end;
        }
        if (wild()) {
            type(random.nextLong(), any(1, 8));
        }
        if (random.nextInt(10) == 0) {
            return;
        }
        if (town ^ random.nextInt(20) == 0) {
            answered("town()", x.town(), m.town());
        } else {
            answered("people()", x.people(), m.people());
        }
    }

    private void type(long w, int n) {
        answered("type(" + w + ", " + n + ")", x.type(w, n), m.type(w, n));
    }

    private String blank() {
        return random.nextInt(12) == 0 ? " " : "";
    }

    private String townText() {
        StringBuilder text = new StringBuilder();
        int n = random.nextInt(4) == 0 ? 20 + random.nextInt(7) : 1 + random.nextInt(12);
        for (int i = 0; i < n; i++) {
            int a = random.nextInt(places), b = (a + 1 + random.nextInt(places - 1)) % places;
            text.append(i == 0 ? "" : ",").append(blank()).append((char) ('a' + a));
            if (random.nextInt(3) == 0) {
                text.append(blank()).append(random.nextBoolean() ? '+' : '-').append(blank()).append(random.nextInt(10));
            }
            text.append(blank()).append((char) ('a' + b)).append(blank()).append(1 + random.nextInt(longest));
            text.append(blank()).append(random.nextInt(3) == 0 ? "g" : "").append(blank());
        }
        return text.toString();
    }

    private String peopleText() {
        StringBuilder text = new StringBuilder();
        int n = random.nextInt(12) == 0 ? 9 : 1 + random.nextInt(8);
        for (int i = 0; i < n; i++) {
            text.append(i == 0 ? "" : ",").append(blank()).append((char) ('a' + random.nextInt(places))).append(blank());
            text.append("gcop".charAt(random.nextInt(4))).append(blank()).append(random.nextInt(random.nextBoolean() ? 100000 : 300)).append(blank());
        }
        return text.toString();
    }

    private String spoilt(String text) {
        String signs = "abglm+-0159,; zgcopGA";
        int at = random.nextInt(text.length() + 1);
        String sign = String.valueOf(signs.charAt(random.nextInt(signs.length())));
        switch (random.nextInt(3)) {
            case 0: return text.substring(0, at) + sign + text.substring(at);
            case 1: return text.substring(0, at);
            default: return at < text.length() ? text.substring(0, at) + sign + text.substring(at + 1) : text + sign;
        }
    }

    private void sheets() {
        int sheet = random.nextInt(2) == 0 ? any(0, 3) : 0, lane = lane(), from = any(0, 24), n = any(-1, 24);
        long v = random.nextInt(3) == 0 ? LONGS[random.nextInt(LONGS.length)] : random.nextInt(1000);
        if (!m.s.people.isEmpty() && random.nextInt(2) == 0) {
            // near what is just so, where one less makes a liar
            Model.One o = m.s.people.get(random.nextInt(m.s.people.size()));
            v = o.gates + o.ring + o.out - o.in - random.nextInt(2);
        }
        if (random.nextInt(2) == 0) {
            from = Math.min(from, 3);
        }
        switch (random.nextInt(8)) {
            case 0: answered("sheet(" + sheet + ", " + lane + ", " + n + ")", x.sheet(sheet, lane, n), m.sheet(sheet, lane, n)); break;
            case 1: if (random.nextInt(4) == 0) answered("drop(" + sheet + ")", x.drop(sheet), m.drop(sheet)); break;
            case 2: case 3: case 4:
                answered("item(" + sheet + ", " + lane + ", " + from + ", " + v + ")", x.item(sheet, lane, from, v), m.item(sheet, lane, from, v));
                break;
            case 5: answered("film(" + sheet + ", " + lane + ", " + from + ")", x.film(sheet, lane, from), m.film(sheet, lane, from)); break;
            default: answered("lies(" + sheet + ", " + lane + ", " + from + ")", x.lies(sheet, lane, from), m.lies(sheet, lane, from)); break;
        }
    }
}
