import java.util.Arrays;

/**
 * A town in which each has so many steps by law.
 *
 * Every row that a call works on is made here once, with the object, and used again:
 * no call makes an object, so a long run of calls stays as small as a short one.
 */
public final class StepRings {
    public static final int BAD = -1, NOT = -2, FULL = -3, NONE = -4, NULL = -11, CAST = -12, INDEX = -13, SIZE = -14;

    /** What refusals are less by where a told thing may itself be below 0. */
    private static final int BELOW = 100000;

    private static final int PLACES = 12;
    private static final int MOST_WAYS = 24;
    private static final int MOST_LENGTH = 99;
    private static final int MOST_SLOPE = 9;
    private static final int MOST_PEOPLE = 8;
    private static final int MOST_RING = 99999;
    private static final int MOST_ERRANDS = 6;
    private static final int ERRAND_SETS = 64;
    private static final int MOST_GIVEN = 9999;
    private static final int MOST_SPENT = 1000000000;
    private static final int MOST_WELLS = 3;
    private static final int MOST_TAPE = 160;
    private static final int SHEETS = 4;
    private static final int MOST_ITEMS = 24;

    private static final int KINDS = 4;
    private static final int CHILD = 1;
    private static final int OLD = 2;
    private static final int POSTMAN = 3;

    private static final int LAWS = 3;
    private static final int LOST = 0;
    private static final int HALF = 2;

    private static final int LANES = 3;
    private static final int SHORTS = 0;
    private static final int INTS = 1;

    /** Dearer than any row of ways that is gone, and some of it added up stays an int. */
    private static final int NO_WAY = 1000000;

    private final World world = new World();
    private final World kept = new World();
    private boolean hasImage;
    private final Roads roads = new Roads(world.ways);
    private final Tours tours = new Tours(world, roads);
    private final Wells wellRows = new Wells(world.people, roads);
    private final Cut cut = new Cut(world.ways);
    private final Tape tape = new Tape();
    private final Sheet[] sheets = new Sheet[SHEETS];

    public StepRings() {
        for (int i = 0; i < SHEETS; i++) {
            sheets[i] = new Sheet();
        }
    }

    // ---- 1 ways, people

    public int way(int from, int to, int length, int slope) {
        if (!isPlace(from) || !isPlace(to) || from == to) {
            return BAD;
        }
        if (!isWithin(length, 1, MOST_LENGTH) || !isWithin(slope, -MOST_SLOPE, MOST_SLOPE)) {
            return BAD;
        }
        if (world.ways.count >= MOST_WAYS) {
            return FULL;
        }
        int number = world.ways.add(from, to, length, slope, 0);
        roads.forget();
        return number;
    }

    public int gate(int way, boolean is) {
        if (!world.ways.has(way)) {
            return BAD;
        }
        int was = world.ways.gated[way];
        world.ways.gated[way] = is ? 1 : 0;
        return was;
    }

    public int told(int way, int what) {
        if (!world.ways.has(way)) {
            return BAD - BELOW;
        }
        switch (what) {
            case 0: return world.ways.first[way];
            case 1: return world.ways.second[way];
            case 2: return world.ways.length[way];
            case 3: return world.ways.slope[way];
            case 4: return world.ways.gated[way];
            default: return BAD - BELOW;
        }
    }

    public int person(int home, int kind, int ring) {
        if (!isPlace(home) || !isKind(kind) || !isWithin(ring, 0, MOST_RING)) {
            return BAD;
        }
        if (world.people.count >= MOST_PEOPLE) {
            return FULL;
        }
        return world.people.add(home, kind, ring);
    }

    public int of(int person, int what) {
        if (!isPerson(person)) {
            return BAD;
        }
        switch (what) {
            case 0: return world.people.home[person];
            case 1: return world.people.kind[person];
            case 2: return world.people.ring[person];
            case 3: return world.people.place[person];
            case 4: return world.people.counted[person];
            default: return BAD;
        }
    }

    public int costs(int person, int way, int from) {
        if (!isPerson(person) || !world.ways.has(way) || !isWithin(from, 0, 1)) {
            return BAD;
        }
        return world.ways.costOf(way, world.people.kind[person], from == 0);
    }

    public int far(int person, int from, int to) {
        if (!isPerson(person) || !isPlace(from) || !isPlace(to)) {
            return BAD;
        }
        return orNone(roads.costsOf(world.people.kind[person])[from * PLACES + to]);
    }

    public int given(int kind, int v) {
        if (!isKind(kind) || !isWithin(v, 0, MOST_GIVEN)) {
            return BAD;
        }
        int was = world.share[kind];
        world.share[kind] = v;
        return was;
    }

    public int rule(int v) {
        if (!isWithin(v, 0, LAWS - 1)) {
            return BAD;
        }
        int was = world.law;
        world.law = v;
        return was;
    }

    public int type(long w, int n) {
        if (!isWithin(n, 1, 8) || !Tape.canHold(w, n)) {
            return BAD;
        }
        if (tape.size + n > MOST_TAPE) {
            return FULL;
        }
        return tape.append(w, n);
    }

    public int town() {
        boolean good = tape.readTown();
        int end = tape.at;
        tape.empty();
        if (!good) {
            return -20 - end;
        }
        world.ways.copy(tape.ways);
        roads.forget();
        return world.ways.count;
    }

    public int people() {
        boolean good = tape.readPeople();
        int end = tape.at;
        tape.empty();
        if (!good) {
            return -20 - end;
        }
        world.people.copy(tape.people);
        return world.people.count;
    }

    public int count(int what) {
        switch (what) {
            case 0: return world.ways.count;
            case 1: return world.people.count;
            case 2: return world.errands;
            case 3: return world.people.allRings();
            case 4: return world.people.allOwed();
            case 5: return world.spent;
            default: return BAD;
        }
    }

    // ---- 2 going

    public int go(int person, int place) {
        if (!isPerson(person) || !isPlace(place)) {
            return BAD;
        }
        int cost = farFromNow(person, place);
        if (cost >= NO_WAY) {
            return NONE;
        }
        if (cost > world.people.ring[person]) {
            return NOT;
        }
        return walk(person, place, 1);
    }

    public int carry(int person, int other, int place) {
        if (!areTwo(person, other) || !isPlace(place)) {
            return BAD;
        }
        if (world.people.place[person] != world.people.place[other]) {
            return NOT;
        }
        int cost = farFromNow(person, place);
        if (cost >= NO_WAY) {
            return NONE;
        }
        if (2 * cost > world.people.ring[person]) {
            return FULL;
        }
        world.people.place[other] = place;
        return walk(person, place, 2);
    }

    public int lend(int from, int to, int n) {
        if (!areTwo(from, to) || !isWithin(n, 1, MOST_RING)) {
            return BAD;
        }
        if (n > world.people.ring[from]) {
            return NOT;
        }
        world.people.hand(from, to, n);
        world.people.owed[to * MOST_PEOPLE + from] += n;
        return world.people.ring[from];
    }

    public int pay(int from, int to, int n) {
        if (!areTwo(from, to) || !isWithin(n, 1, MOST_RING)) {
            return BAD;
        }
        if (n > world.people.ring[from] || n > world.people.owed[from * MOST_PEOPLE + to]) {
            return NOT;
        }
        world.people.payBack(from, to, n);
        return world.people.ring[from];
    }

    public int owes(int from, int to) {
        if (!areTwo(from, to)) {
            return BAD;
        }
        return world.people.owed[from * MOST_PEOPLE + to];
    }

    public int month() {
        int paid = world.people.settle();
        world.people.renew(world.law, world.share);
        return paid;
    }

    // ---- 3 houses, wells, runaways

    public int meet(int a, int b, int what) {
        if (!areTwo(a, b) || !isWithin(what, 0, 1)) {
            return BAD;
        }
        int best = NO_WAY;
        int where = NONE;
        for (int place = 0; place < PLACES; place++) {
            int both = farFromNow(a, place) + farFromNow(b, place);
            if (both < best) {
                best = both;
                where = place;
            }
        }
        return what == 0 ? where : orNone(best);
    }

    public int errand(int place) {
        if (!isPlace(place)) {
            return BAD;
        }
        if (world.errands >= MOST_ERRANDS) {
            return FULL;
        }
        world.errandPlace[world.errands] = place;
        world.errands++;
        return world.errands - 1;
    }

    public int rest() {
        int gone = world.errands;
        world.errands = 0;
        return gone;
    }

    public int parted(int set) {
        if (!isWithin(set, 1, (1 << world.people.count) - 1)) {
            return BAD;
        }
        return orNone(tours.leastParted(set));
    }

    public int tour(int person, int i) {
        if (!isPerson(person) || !isWithin(i, -1, MOST_ERRANDS - 1)) {
            return BAD;
        }
        int cost = tours.weigh(person);
        if (cost >= NO_WAY || i >= world.errands) {
            return NONE;
        }
        return i < 0 ? cost : tours.errandAt(person, i);
    }

    public int wells(int k, int worst, int i) {
        if (!isWithin(k, 1, MOST_WELLS) || !isWithin(worst, 0, MOST_RING) || !isWithin(i, -1, k - 1)) {
            return BAD;
        }
        if (world.people.count == 0) {
            return NONE;
        }
        int cost = wellRows.dig(k, worst);
        if (cost >= NO_WAY) {
            return NONE;
        }
        return i < 0 ? cost : wellRows.best[i];
    }

    public int hold(int person, int place, int steps) {
        if (!isPerson(person) || !isPlace(place) || !isWithin(steps, 0, MOST_RING)) {
            return BAD;
        }
        int[] costs = roads.costsOf(world.people.kind[person]);
        int set = 0;
        for (int to = 0; to < PLACES; to++) {
            if (costs[place * PLACES + to] <= steps) {
                set |= 1 << to;
            }
        }
        return set;
    }

    public int stops(int from, int to) {
        if (!isPlace(from) || !isPlace(to) || from == to) {
            return BAD;
        }
        return cut.fewest(from, to);
    }

    public int image() {
        kept.copy(world);
        hasImage = true;
        return 1;
    }

    public int restore() {
        if (!hasImage) {
            return NONE;
        }
        world.copy(kept);
        roads.forget();
        return 1;
    }

    // ---- 4 sheets

    public int lies(int sheet, int lane, int from) {
        int refused = refusedRow(sheet, lane, from, world.people.count);
        if (refused != 0) {
            return refused;
        }
        int set = 0;
        for (int p = 0; p < world.people.count; p++) {
            if (world.people.isLiar(p, sheets[sheet].items[from + p])) {
                set |= 1 << p;
            }
        }
        return set;
    }

    public int sheet(int sheet, int lane, int n) {
        if (!isSheet(sheet) || !isLane(lane) || n > MOST_ITEMS) {
            return BAD;
        }
        if (n < 0) {
            return SIZE;
        }
        sheets[sheet].fresh(lane, n);
        return n;
    }

    public int drop(int sheet) {
        if (!isSheet(sheet)) {
            return BAD;
        }
        if (!sheets[sheet].holds) {
            return NULL;
        }
        sheets[sheet].holds = false;
        return sheets[sheet].size;
    }

    public int item(int sheet, int lane, int i, long v) {
        int refused = refusedRow(sheet, lane, i, 1);
        if (refused != 0) {
            return refused;
        }
        sheets[sheet].put(i, v);
        return 1;
    }

    public int film(int sheet, int lane, int from) {
        int refused = refusedRow(sheet, lane, from, world.people.count);
        if (refused != 0) {
            return refused;
        }
        for (int p = 0; p < world.people.count; p++) {
            sheets[sheet].put(from + p, world.people.ring[p]);
        }
        return world.people.count;
    }

    // ---- what the calls share

    private static boolean isWithin(int v, int least, int most) {
        return v >= least && v <= most;
    }

    private static boolean isPlace(int place) {
        return isWithin(place, 0, PLACES - 1);
    }

    private static boolean isKind(int kind) {
        return isWithin(kind, 0, KINDS - 1);
    }

    private static boolean isSheet(int sheet) {
        return isWithin(sheet, 0, SHEETS - 1);
    }

    private static boolean isLane(int lane) {
        return isWithin(lane, 0, LANES - 1);
    }

    private static int orNone(int cost) {
        return cost >= NO_WAY ? NONE : cost;
    }

    private boolean isPerson(int person) {
        return isWithin(person, 0, world.people.count - 1);
    }

    private boolean areTwo(int a, int b) {
        return isPerson(a) && isPerson(b) && a != b;
    }

    private int farFromNow(int person, int place) {
        return roads.costsOf(world.people.kind[person])[world.people.place[person] * PLACES + place];
    }

    /** Takes one, who has the steps for it, there way by way, since each way's gate counts for itself. */
    private int walk(int person, int place, int times) {
        People people = world.people;
        int kind = people.kind[person];
        for (int gone = 0; gone < PLACES && people.place[person] != place; gone++) {
            int at = people.place[person];
            int way = roads.wayOn(kind, at, place);
            if (way < 0) {
                break;
            }
            int cost = times * world.ways.costOf(way, kind, world.ways.first[way] == at);
            people.ring[person] -= cost;
            people.place[person] = world.ways.otherEnd(way, at);
            if (world.ways.gated[way] != 0) {
                people.counted[person] += cost;
            }
            world.spent = Math.min(MOST_SPENT, world.spent + cost);
        }
        return people.ring[person];
    }

    /** What stands against using n items of a sheet from one on, or 0. */
    private int refusedRow(int sheet, int lane, int from, int n) {
        if (!isSheet(sheet) || !isLane(lane)) {
            return BAD;
        }
        if (!sheets[sheet].holds) {
            return NULL;
        }
        if (sheets[sheet].lane != lane) {
            return CAST;
        }
        // from + n may wrap around, so the sum is not made
        if (from < 0 || from > sheets[sheet].size - n) {
            return INDEX;
        }
        return 0;
    }

    /** All that an image keeps. */
    private static final class World {
        final Ways ways = new Ways();
        final People people = new People();
        int errands;
        final int[] errandPlace = new int[MOST_ERRANDS];
        final int[] share = {400, 300, 500, 900};
        int law;
        int spent;

        void copy(World from) {
            ways.copy(from.ways);
            people.copy(from.people);
            errands = from.errands;
            System.arraycopy(from.errandPlace, 0, errandPlace, 0, MOST_ERRANDS);
            System.arraycopy(from.share, 0, share, 0, KINDS);
            law = from.law;
            spent = from.spent;
        }
    }

    private static final class Ways {
        int count;
        final int[] first = new int[MOST_WAYS];
        final int[] second = new int[MOST_WAYS];
        final int[] length = new int[MOST_WAYS];
        final int[] slope = new int[MOST_WAYS];
        /** 1: with a gate; 0: without. */
        final int[] gated = new int[MOST_WAYS];

        boolean has(int way) {
            return isWithin(way, 0, count - 1);
        }

        int add(int from, int to, int steps, int floors, int gates) {
            int number = count;
            first[number] = from;
            second[number] = to;
            length[number] = steps;
            slope[number] = floors;
            gated[number] = gates;
            count++;
            return number;
        }

        /** The other place of a way that has this one, or -1. */
        int otherEnd(int way, int place) {
            if (first[way] == place) {
                return second[way];
            }
            return second[way] == place ? first[way] : -1;
        }

        int costOf(int way, int kind, boolean fromFirst) {
            int up = fromFirst ? slope[way] : -slope[way];
            int grown = length[way] + 3 * Math.max(0, up);
            int old = up > 0 ? grown + length[way] / 2 : grown;
            switch (kind) {
                case CHILD: return 2 * grown;
                case OLD: return old;
                case POSTMAN: return Math.max(1, old / 2);
                default: return grown;
            }
        }

        void copy(Ways from) {
            count = from.count;
            System.arraycopy(from.first, 0, first, 0, MOST_WAYS);
            System.arraycopy(from.second, 0, second, 0, MOST_WAYS);
            System.arraycopy(from.length, 0, length, 0, MOST_WAYS);
            System.arraycopy(from.slope, 0, slope, 0, MOST_WAYS);
            System.arraycopy(from.gated, 0, gated, 0, MOST_WAYS);
        }
    }

    private static final class People {
        int count;
        final int[] home = new int[MOST_PEOPLE];
        final int[] kind = new int[MOST_PEOPLE];
        final int[] ring = new int[MOST_PEOPLE];
        final int[] place = new int[MOST_PEOPLE];
        final int[] counted = new int[MOST_PEOPLE];
        final int[] in = new int[MOST_PEOPLE];
        final int[] out = new int[MOST_PEOPLE];
        /** At a * MOST_PEOPLE + b: what a owes b. */
        final int[] owed = new int[MOST_PEOPLE * MOST_PEOPLE];

        int add(int atHome, int ofKind, int steps) {
            int number = count;
            home[number] = atHome;
            kind[number] = ofKind;
            ring[number] = steps;
            place[number] = atHome;
            counted[number] = 0;
            in[number] = 0;
            out[number] = 0;
            count++;
            return number;
        }

        void hand(int from, int to, int n) {
            ring[from] -= n;
            out[from] += n;
            ring[to] = Math.min(MOST_RING, ring[to] + n);
            in[to] += n;
        }

        void payBack(int from, int to, int n) {
            hand(from, to, n);
            owed[from * MOST_PEOPLE + to] -= n;
        }

        /** Each pays back what the ring has for it, with what came to it just before, too. */
        int settle() {
            int paid = 0;
            for (int from = 0; from < count; from++) {
                for (int to = 0; to < count; to++) {
                    int n = Math.min(ring[from], owed[from * MOST_PEOPLE + to]);
                    payBack(from, to, n);
                    paid += n;
                }
            }
            return paid;
        }

        void renew(int law, int[] share) {
            for (int p = 0; p < count; p++) {
                int left = law == LOST ? 0 : law == HALF ? ring[p] / 2 : ring[p];
                ring[p] = Math.min(MOST_RING, left + share[kind[p]]);
                place[p] = home[p];
                counted[p] = 0;
                in[p] = 0;
                out[p] = 0;
            }
        }

        boolean isLiar(int p, long ringThen) {
            // the told ring may be any long: kept alone on its side, nothing wraps around
            return ringThen < (long) counted[p] + ring[p] + out[p] - in[p];
        }

        int allRings() {
            int sum = 0;
            for (int p = 0; p < count; p++) {
                sum += ring[p];
            }
            return sum;
        }

        int allOwed() {
            int sum = 0;
            for (int i = 0; i < MOST_PEOPLE * MOST_PEOPLE; i++) {
                sum += owed[i];
            }
            return sum;
        }

        void copy(People from) {
            count = from.count;
            System.arraycopy(from.home, 0, home, 0, MOST_PEOPLE);
            System.arraycopy(from.kind, 0, kind, 0, MOST_PEOPLE);
            System.arraycopy(from.ring, 0, ring, 0, MOST_PEOPLE);
            System.arraycopy(from.place, 0, place, 0, MOST_PEOPLE);
            System.arraycopy(from.counted, 0, counted, 0, MOST_PEOPLE);
            System.arraycopy(from.in, 0, in, 0, MOST_PEOPLE);
            System.arraycopy(from.out, 0, out, 0, MOST_PEOPLE);
            System.arraycopy(from.owed, 0, owed, 0, MOST_PEOPLE * MOST_PEOPLE);
        }
    }

    /** The least costs between all places, by kinds; reckoned when first asked for, since ways come one by one. */
    private static final class Roads {
        private final Ways ways;
        private final int[][] table = new int[KINDS][PLACES * PLACES];
        /** The kinds whose table fits the ways, as a set. */
        private int known;

        Roads(Ways ways) {
            this.ways = ways;
        }

        void forget() {
            known = 0;
        }

        /** At from * PLACES + to: the least costs, or NO_WAY. */
        int[] costsOf(int kind) {
            if ((known >> kind & 1) == 0) {
                layWays(kind);
                joinWays(table[kind]);
                known |= 1 << kind;
            }
            return table[kind];
        }

        /** The way to take next, or -1. */
        int wayOn(int kind, int at, int goal) {
            int[] costs = costsOf(kind);
            for (int way = 0; way < ways.count; way++) {
                int next = ways.otherEnd(way, at);
                if (next < 0) {
                    continue;
                }
                int cost = ways.costOf(way, kind, ways.first[way] == at);
                if (cost + costs[next * PLACES + goal] == costs[at * PLACES + goal]) {
                    return way;
                }
            }
            return -1;
        }

        private void layWays(int kind) {
            int[] row = table[kind];
            Arrays.fill(row, NO_WAY);
            for (int place = 0; place < PLACES; place++) {
                row[place * PLACES + place] = 0;
            }
            for (int way = 0; way < ways.count; way++) {
                int there = ways.first[way] * PLACES + ways.second[way];
                int back = ways.second[way] * PLACES + ways.first[way];
                row[there] = Math.min(row[there], ways.costOf(way, kind, true));
                row[back] = Math.min(row[back], ways.costOf(way, kind, false));
            }
        }

        private void joinWays(int[] row) {
            for (int over = 0; over < PLACES; over++) {
                for (int from = 0; from < PLACES; from++) {
                    int start = row[from * PLACES + over];
                    if (start >= NO_WAY) {
                        continue;
                    }
                    for (int to = 0; to < PLACES; to++) {
                        int joined = start + row[over * PLACES + to];
                        if (joined < row[from * PLACES + to]) {
                            row[from * PLACES + to] = joined;
                        }
                    }
                }
            }
        }
    }

    /** Tours of one for every set of errands at once: parted asks for all of them. */
    private static final class Tours {
        private final World world;
        private final Roads roads;
        /** At set * MOST_ERRANDS + e: from errand e through the set and home. */
        private final int[] rest = new int[ERRAND_SETS * MOST_ERRANDS];
        private final int[] whole = new int[ERRAND_SETS];
        private final int[] shared = new int[ERRAND_SETS];

        Tours(World world, Roads roads) {
            this.world = world;
            this.roads = roads;
        }

        /** Reckons the tours of one; the costs of that for all errands. */
        int weigh(int person) {
            int[] costs = roads.costsOf(world.people.kind[person]);
            int home = world.people.home[person];
            int sets = 1 << world.errands;
            for (int set = 0; set < sets; set++) {
                for (int e = 0; e < world.errands; e++) {
                    // who is at errand e has it behind him
                    if ((set >> e & 1) == 0) {
                        rest[set * MOST_ERRANDS + e] = through(set, costs, world.errandPlace[e], home);
                    }
                }
                whole[set] = through(set, costs, world.people.place[person], home);
            }
            return whole[sets - 1];
        }

        /** The i-th errand of the tour for all, by what weigh has left for this one. */
        int errandAt(int person, int i) {
            int[] costs = roads.costsOf(world.people.kind[person]);
            int at = world.people.place[person];
            int set = (1 << world.errands) - 1;
            int errand = NONE;
            for (int step = 0; step <= i && set != 0; step++) {
                errand = firstOf(set, costs, at);
                at = world.errandPlace[errand];
                set &= ~(1 << errand);
            }
            return errand;
        }

        int leastParted(int people) {
            int sets = 1 << world.errands;
            Arrays.fill(shared, NO_WAY);
            shared[0] = 0;
            for (int p = 0; p < world.people.count; p++) {
                if ((people >> p & 1) != 0) {
                    weigh(p);
                    shareWith(sets);
                }
            }
            return shared[sets - 1];
        }

        /** Larger sets first: what is left of them is still what the others alone can do. */
        private void shareWith(int sets) {
            for (int set = sets - 1; set > 0; set--) {
                int best = shared[set];
                for (int his = set; his > 0; his = (his - 1) & set) {
                    best = Math.min(best, shared[set & ~his] + whole[his]);
                }
                shared[set] = best;
            }
        }

        private int through(int set, int[] costs, int at, int home) {
            if (set == 0) {
                return costs[at * PLACES + home];
            }
            return Math.min(NO_WAY, by(firstOf(set, costs, at), set, costs, at));
        }

        /** Of the errands by which the rest costs least the first, so that the order is the first as a row. */
        private int firstOf(int set, int[] costs, int at) {
            int first = 0;
            int best = -1;
            for (int e = 0; e < world.errands; e++) {
                if ((set >> e & 1) == 0) {
                    continue;
                }
                int cost = by(e, set, costs, at);
                if (best < 0 || cost < best) {
                    best = cost;
                    first = e;
                }
            }
            return first;
        }

        private int by(int e, int set, int[] costs, int at) {
            return costs[at * PLACES + world.errandPlace[e]] + rest[(set & ~(1 << e)) * MOST_ERRANDS + e];
        }
    }

    private static final class Wells {
        private final People people;
        private final Roads roads;
        private final int[] row = new int[MOST_WELLS];
        final int[] best = new int[MOST_WELLS];

        Wells(People people, Roads roads) {
            this.people = people;
            this.roads = roads;
        }

        /** Looks at every row of k places, the first first; the least costs, by the row in best. */
        int dig(int k, int worst) {
            int least = NO_WAY;
            for (int i = 0; i < k; i++) {
                row[i] = i;
            }
            boolean more = true;
            for (int n = 0; n < PLACES * PLACES * PLACES && more; n++) {
                int cost = costOfRow(k, worst);
                if (cost < least) {
                    least = cost;
                    System.arraycopy(row, 0, best, 0, k);
                }
                more = nextRow(k);
            }
            return least;
        }

        private int costOfRow(int k, int worst) {
            int sum = 0;
            for (int p = 0; p < people.count; p++) {
                int[] costs = roads.costsOf(people.kind[p]);
                int near = NO_WAY;
                for (int i = 0; i < k; i++) {
                    near = Math.min(near, costs[people.home[p] * PLACES + row[i]]);
                }
                if (near > worst) {
                    return NO_WAY;
                }
                sum += near;
            }
            return sum;
        }

        private boolean nextRow(int k) {
            int i = k - 1;
            while (i >= 0 && row[i] == PLACES - k + i) {
                i--;
            }
            if (i < 0) {
                return false;
            }
            row[i]++;
            for (int j = i + 1; j < k; j++) {
                row[j] = row[j - 1] + 1;
            }
            return true;
        }
    }

    /** The fewest ways to stop are as many as there are rows of ways that share none. */
    private static final class Cut {
        private final Ways ways;
        /** 1: a row goes from the way's first place to its second; -1: the other way; 0: none. */
        private final int[] used = new int[MOST_WAYS];
        /** The way by which a row comes to a place, or -1. */
        private final int[] cameBy = new int[PLACES];

        Cut(Ways ways) {
            this.ways = ways;
        }

        int fewest(int from, int to) {
            Arrays.fill(used, 0);
            int rows = 0;
            while (rows < MOST_WAYS && findRow(from, to)) {
                takeRow(to);
                rows++;
            }
            return rows;
        }

        private boolean findRow(int from, int to) {
            Arrays.fill(cameBy, -1);
            int reached = 1 << from;
            int before = 0;
            for (int round = 0; round < PLACES && reached != before; round++) {
                before = reached;
                for (int way = 0; way < ways.count; way++) {
                    reached |= reach(way, ways.first[way], ways.second[way], reached);
                    reached |= reach(way, ways.second[way], ways.first[way], reached);
                }
            }
            return cameBy[to] >= 0;
        }

        /** The place that a way newly leads to from a reached one, as a set. */
        private int reach(int way, int at, int next, int reached) {
            int full = ways.first[way] == at ? 1 : -1;
            if ((reached >> at & 1) == 0 || (reached >> next & 1) != 0 || used[way] == full) {
                return 0;
            }
            cameBy[next] = way;
            return 1 << next;
        }

        /** A way that a row took the other way before is given back by this. */
        private void takeRow(int to) {
            int at = to;
            for (int gone = 0; gone < PLACES && cameBy[at] >= 0; gone++) {
                int way = cameBy[at];
                used[way] += ways.second[way] == at ? 1 : -1;
                at = ways.second[way] == at ? ways.first[way] : ways.second[way];
            }
        }
    }

    /** What is typed; towns and people are read into rows of its own, since those told stay at a fault. */
    private static final class Tape {
        private static final int END = -1;

        private final char[] bytes = new char[MOST_TAPE];
        int size;
        /** Where reading is; behind a fault the place of it. */
        int at;
        final Ways ways = new Ways();
        final People people = new People();

        static boolean canHold(long w, int n) {
            for (int i = 0; i < n; i++) {
                if (!isWithin(byteOf(w, i), 32, 126)) {
                    return false;
                }
            }
            return true;
        }

        private static int byteOf(long w, int i) {
            return (int) (w >> 8 * i) & 255;
        }

        int append(long w, int n) {
            for (int i = n - 1; i >= 0; i--) {
                bytes[size] = (char) byteOf(w, i);
                size++;
            }
            return size;
        }

        void empty() {
            size = 0;
        }

        boolean readTown() {
            ways.count = 0;
            return readRow(true, MOST_WAYS);
        }

        boolean readPeople() {
            people.count = 0;
            return readRow(false, MOST_PEOPLE);
        }

        private boolean readRow(boolean ofWays, int most) {
            at = 0;
            for (int left = most; left > 0; left--) {
                boolean good = ofWays ? readWay() : readPerson();
                if (!good) {
                    return false;
                }
                if (look() == END) {
                    return true;
                }
                if (left == 1 || !take(',')) {
                    return false;
                }
            }
            return false;
        }

        private boolean readWay() {
            int from = readPlace(-1);
            if (from < 0) {
                return false;
            }
            int sign = take('+') ? 1 : take('-') ? -1 : 0;
            int floors = 0;
            if (sign != 0) {
                floors = readDigit();
                if (floors < 0) {
                    return false;
                }
            }
            int to = readPlace(from);
            if (to < 0) {
                return false;
            }
            int steps = readNumber(1, MOST_LENGTH);
            if (steps < 0) {
                return false;
            }
            ways.add(from, to, steps, sign * floors, take('g') ? 1 : 0);
            return true;
        }

        private boolean readPerson() {
            int home = readPlace(-1);
            if (home < 0) {
                return false;
            }
            int kind = readKind();
            if (kind < 0) {
                return false;
            }
            int ring = readNumber(0, MOST_RING);
            if (ring < 0) {
                return false;
            }
            people.add(home, kind, ring);
            return true;
        }

        /** The next byte that is no blank, or END. */
        private int look() {
            while (at < size && bytes[at] == ' ') {
                at++;
            }
            return at < size ? bytes[at] : END;
        }

        private boolean take(char c) {
            if (look() != c) {
                return false;
            }
            at++;
            return true;
        }

        /** A place that is not the one told, or -1. */
        private int readPlace(int not) {
            int c = look();
            if (c < 'a' || c > 'l' || c - 'a' == not) {
                return -1;
            }
            at++;
            return c - 'a';
        }

        private int readKind() {
            if (take('g')) {
                return 0;
            }
            if (take('c')) {
                return CHILD;
            }
            if (take('o')) {
                return OLD;
            }
            return take('p') ? POSTMAN : -1;
        }

        private int readDigit() {
            int c = look();
            if (c < '0' || c > '9') {
                return -1;
            }
            at++;
            return c - '0';
        }

        private int readNumber(int least, int most) {
            int v = readDigit();
            if (v < 0) {
                return -1;
            }
            int start = at - 1;
            while (at < size && bytes[at] >= '0' && bytes[at] <= '9') {
                // beyond most it is a fault however long it gets
                v = Math.min(most + 1, v * 10 + bytes[at] - '0');
                at++;
            }
            if (!isWithin(v, least, most)) {
                at = start;
                return -1;
            }
            return v;
        }
    }

    /** Items are kept as longs, cut to their lane as they come. */
    private static final class Sheet {
        boolean holds;
        int lane;
        int size;
        final long[] items = new long[MOST_ITEMS];

        void fresh(int ofLane, int n) {
            holds = true;
            lane = ofLane;
            size = n;
            Arrays.fill(items, 0L);
        }

        void put(int i, long v) {
            items[i] = lane == SHORTS ? (short) v : lane == INTS ? (int) v : v;
        }
    }
}
