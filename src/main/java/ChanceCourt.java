import java.util.Arrays;

/** A court for systems whose steps are partly chosen and partly drawn. */
public final class ChanceCourt {
    private static final int STATES = 10;
    private static final int ACTS = 4;
    private static final int OUTCOMES = 4;
    private static final int TWELVE = 12;
    private static final int DEAREST = 1000;
    private static final int UNKNOWNS = 5;
    private static final int STEPS = 10;
    private static final int SHELVES = 8;
    private static final int PLACES = 60;

    // Far above what any run needs: it only makes the end of a loop plain to see.
    private static final int ROUNDS = 1000000;

    private static final int SURE = 1;
    private static final int FOE = 2;
    private static final int STOP = 3;

    private static final int NOTHING = 0;
    private static final int ACT = 1;
    private static final int NUMBER = 2;
    private static final int INTS = 3;
    private static final int LONGS = 4;

    private static final int NO_SUCH = -1;
    private static final int SECOND = -2;
    private static final int THIRD = -3;
    private static final int FOURTH = -4;
    private static final int EMPTY = -11;
    private static final int OTHER_KIND = -12;
    private static final int NO_PLACE = -13;
    private static final int BELOW_ZERO = -14;
    private static final int NO_FAILURE = -15;

    private final World world;
    private final Verdict mostVerdict;
    private final Verdict leastVerdict;
    private final Guide guide;
    private final Horizon mostSoon;
    private final Horizon leastSoon;
    private final Prices prices;
    private final Holes holes;
    private final Twins twins;
    private final Shelf[] shelves;

    public ChanceCourt() {
        world = new World();
        mostVerdict = new Verdict(world, false);
        leastVerdict = new Verdict(world, true);
        guide = new Guide(world, mostVerdict);
        mostSoon = new Horizon(world, false);
        leastSoon = new Horizon(world, true);
        prices = new Prices(world, mostVerdict);
        holes = new Holes(world);
        twins = new Twins(world);
        shelves = new Shelf[SHELVES];
        for (int d = 0; d < SHELVES; d++) {
            shelves[d] = new Shelf();
        }
    }

    public int state() {
        if (world.states >= STATES) {
            return SECOND;
        }
        return world.addState();
    }

    public int act(int state, int kind, int cost) {
        if (!world.hasState(state) || kind < 0 || kind > STOP || cost < 0 || cost > DEAREST) {
            return NO_SUCH;
        }
        if (world.actCounts[state] >= ACTS) {
            return SECOND;
        }
        if (world.actCounts[state] > 0 && world.isFoes(state) != (kind == FOE)) {
            return THIRD;
        }
        return world.addAct(state, kind, cost);
    }

    public int outcome(int state, int act, int to, int part) {
        if (!world.hasAct(state, act) || !world.hasState(to) || part < 1 || part > TWELVE) {
            return NO_SUCH;
        }
        Act told = world.actAt(state, act);
        if (told.kind == STOP && to != state) {
            return NO_SUCH;
        }
        if (told.outcomes >= told.room()) {
            return SECOND;
        }
        if (told.parts + part > TWELVE || has(told.goes, to)) {
            return THIRD;
        }
        return world.addOutcome(told, to, part);
    }

    public int drop(int state) {
        if (!world.hasState(state)) {
            return NO_SUCH;
        }
        if (world.actCounts[state] == 0) {
            return SECOND;
        }
        return world.removeAct(state);
    }

    public int mark(int bits) {
        if ((bits & ~world.everyone()) != 0) {
            return NO_SUCH;
        }
        world.setMarked(bits);
        return Integer.bitCount(bits);
    }

    public int whole() {
        return world.lacking();
    }

    public long value(int state, boolean least, int what) {
        if (!world.hasState(state) || !isHalf(what)) {
            return NO_SUCH;
        }
        Verdict verdict = least ? leastVerdict : mostVerdict;
        int refusal = refusalOf(verdict);
        if (refusal != 0) {
            return refusal;
        }
        return lowestTerms(verdict.upper[state], verdict.lower, what);
    }

    public int choice(int state) {
        if (!world.hasAct(state, 0)) {
            return NO_SUCH;
        }
        int refusal = refusalOf(mostVerdict);
        if (refusal != 0) {
            return refusal;
        }
        guide.settle();
        return guide.pick(state);
    }

    public int distance(int state) {
        if (!world.hasState(state)) {
            return NO_SUCH;
        }
        int refusal = refusalOf(mostVerdict);
        if (refusal != 0) {
            return refusal;
        }
        if (has(mostVerdict.lost, state)) {
            return FOURTH;
        }
        guide.settle();
        return guide.steps[state];
    }

    public long sum(int state, int act, int what) {
        if (!world.hasAct(state, act) || !isHalf(what)) {
            return NO_SUCH;
        }
        int refusal = refusalOf(mostVerdict);
        if (refusal != 0) {
            return refusal;
        }
        long upper = world.actAt(state, act).mean(mostVerdict.upper);
        return lowestTerms(upper, TWELVE * mostVerdict.lower, what);
    }

    public long within(int state, int k, boolean least, int what) {
        if (!world.hasState(state) || k < 0 || k > STEPS || !isHalf(what)) {
            return NO_SUCH;
        }
        if (!world.isWhole()) {
            return SECOND;
        }
        Horizon soon = least ? leastSoon : mostSoon;
        soon.settle();
        return lowestTerms(soon.upper[k][state], soon.lower[k], what);
    }

    public int bound(int state, int p) {
        if (!world.hasState(state) || p < 0 || p > TWELVE) {
            return NO_SUCH;
        }
        if (!world.isWhole()) {
            return SECOND;
        }
        mostSoon.settle();
        for (int k = 0; k <= STEPS; k++) {
            if (TWELVE * mostSoon.upper[k][state] >= p * mostSoon.lower[k]) {
                return k;
            }
        }
        return THIRD;
    }

    public int sets(int what) {
        if (what < 0 || what > 3) {
            return NO_SUCH;
        }
        if (!world.isWhole()) {
            return SECOND;
        }
        Verdict verdict = what < 2 ? mostVerdict : leastVerdict;
        verdict.sort();
        return what % 2 == 0 ? verdict.sure : verdict.lost;
    }

    public int reached(int state) {
        if (!world.hasState(state)) {
            return NO_SUCH;
        }
        return world.reachedFrom(state);
    }

    public long cost(int state, int what) {
        if (!world.hasState(state) || !isHalf(what)) {
            return NO_SUCH;
        }
        if (!world.isWhole()) {
            return SECOND;
        }
        prices.settle();
        if (!prices.told) {
            return THIRD;
        }
        if (!has(mostVerdict.sure, state)) {
            return FOURTH;
        }
        return lowestTerms(prices.upper[state], prices.lower, what);
    }

    public int hole(int i, int what) {
        if (what < 0 || what > 2) {
            return NO_SUCH;
        }
        if (!world.isWhole()) {
            return SECOND;
        }
        holes.settle();
        if (what == 0) {
            return holes.holes;
        }
        if (i < 0 || i >= holes.holes) {
            return NO_SUCH;
        }
        return what == 1 ? holes.members[i] : holes.stayingActs(holes.members[i]);
    }

    public int twin(int state) {
        if (!world.hasState(state)) {
            return NO_SUCH;
        }
        if (!world.isWhole()) {
            return SECOND;
        }
        twins.settle();
        return twins.classOf[state];
    }

    public int count(int what) {
        switch (what) {
            case 0:
                return world.states;
            case 1:
                return world.allActs();
            case 2:
                return world.allOutcomes();
            case 3:
                return world.foeActs();
            case 4:
                if (!world.isWhole()) {
                    return SECOND;
                }
                twins.settle();
                return twins.classes;
            default:
                return NO_SUCH;
        }
    }

    public int look(int state, int act, int what) {
        if (!world.hasAct(state, act) || what < 0 || what > 2 + 2 * OUTCOMES) {
            return NO_SUCH;
        }
        Act told = world.actAt(state, act);
        switch (what) {
            case 0:
                return told.kind;
            case 1:
                return told.cost;
            case 2:
                return told.outcomes;
            default:
                int o = (what - 3) % OUTCOMES;
                if (o >= told.outcomes) {
                    return SECOND;
                }
                return what - 3 < OUTCOMES ? told.to[o] : told.part[o];
        }
    }

    public int keep(int d, int what, int s, int k) {
        if (!isShelf(d) || what < NOTHING || what > LONGS) {
            return NO_SUCH;
        }
        if ((what == ACT || what == INTS) && !world.hasAct(s, k)) {
            return NO_SUCH;
        }
        if (what == NUMBER && !world.hasState(s)) {
            return NO_SUCH;
        }
        if (what == NUMBER || what == LONGS) {
            int refusal = refusalOf(mostVerdict);
            if (refusal != 0) {
                return refusal;
            }
        }
        fillShelf(shelves[d], what, s, k);
        return 0;
    }

    public int make(int d, int what, int n) {
        if (!isShelf(d) || (what != INTS && what != LONGS) || n > PLACES) {
            return NO_SUCH;
        }
        if (n < 0) {
            return BELOW_ZERO;
        }
        shelves[d].beginRow(what, n);
        return 0;
    }

    public long element(int d, int i) throws IllegalArgumentException, IllegalStateException {
        if (!isShelf(d)) {
            throw new IllegalArgumentException("no such shelf");
        }
        Shelf shelf = shelves[d];
        if (!shelf.isRow()) {
            throw new IllegalStateException("no row is held");
        }
        if (i < 0 || i >= shelf.length) {
            throw new IllegalStateException("the row has no such place");
        }
        return shelf.row[i];
    }

    public int copy(int d, int i, int e, int j, int n) {
        if (!isShelf(d) || !isShelf(e)) {
            return NO_SUCH;
        }
        Shelf from = shelves[d];
        Shelf to = shelves[e];
        if (from.kind == NOTHING || to.kind == NOTHING) {
            return EMPTY;
        }
        if (!from.isRow() || from.kind != to.kind) {
            return OTHER_KIND;
        }
        if (!from.hasPlaces(i, n) || !to.hasPlaces(j, n)) {
            return NO_PLACE;
        }
        System.arraycopy(from.row, i, to.row, j, n);
        return n;
    }

    public long weight(int d) {
        if (!isShelf(d)) {
            return NO_SUCH;
        }
        Shelf shelf = shelves[d];
        switch (shelf.kind) {
            case NOTHING:
                return EMPTY;
            case ACT:
                return shelf.act.heaviness();
            case NUMBER:
                return shelf.upper;
            default:
                return OTHER_KIND;
        }
    }

    public long ratio(int d, int e) {
        if (!isShelf(d) || !isShelf(e)) {
            return NO_SUCH;
        }
        Shelf above = shelves[d];
        Shelf below = shelves[e];
        if (above.kind == NOTHING || below.kind == NOTHING) {
            return EMPTY;
        }
        if (above.kind != NUMBER || below.kind != NUMBER) {
            return OTHER_KIND;
        }
        if (below.upper == 0) {
            return NO_FAILURE;
        }
        return above.upper / below.upper;
    }

    private int refusalOf(Verdict verdict) {
        if (!world.isWhole()) {
            return SECOND;
        }
        verdict.sort();
        verdict.settle();
        return verdict.told ? 0 : THIRD;
    }

    private void fillShelf(Shelf shelf, int what, int s, int k) {
        switch (what) {
            case ACT:
                shelf.holdAct(world.actAt(s, k));
                break;
            case NUMBER:
                shelf.holdNumber(lowestTerms(mostVerdict.upper[s], mostVerdict.lower, 0));
                break;
            case INTS:
                shelf.holdParts(world.actAt(s, k));
                break;
            case LONGS:
                shelf.beginRow(LONGS, 2 * world.states);
                for (int t = 0; t < world.states; t++) {
                    shelf.row[2 * t] = lowestTerms(mostVerdict.upper[t], mostVerdict.lower, 0);
                    shelf.row[2 * t + 1] = lowestTerms(mostVerdict.upper[t], mostVerdict.lower, 1);
                }
                break;
            default:
                shelf.kind = NOTHING;
                break;
        }
    }

    private static boolean isHalf(int what) {
        return what == 0 || what == 1;
    }

    private static boolean isShelf(int d) {
        return d >= 0 && d < SHELVES;
    }

    private static boolean has(int set, int s) {
        return (set >> s & 1) == 1;
    }

    private static long lowestTerms(long upper, long lower, int what) {
        long common = commonDivisor(upper, lower);
        if (common == 0) {
            return 0;
        }
        return (what == 0 ? upper : lower) / common;
    }

    private static long commonDivisor(long a, long b) {
        long big = a;
        long small = b;
        for (int round = 0; round < ROUNDS && small != 0; round++) {
            long rest = big % small;
            big = small;
            small = rest;
        }
        return big;
    }

    /** One ACT of a STATE, or one that a SHELF holds as it was. */
    private static final class Act {
        int kind;
        int cost;
        int outcomes;
        int parts;
        int goes;
        final int[] to = new int[OUTCOMES];
        final int[] part = new int[OUTCOMES];

        void begin(int newKind, int newCost) {
            kind = newKind;
            cost = newCost;
            outcomes = 0;
            parts = 0;
            goes = 0;
        }

        void addOutcome(int state, int twelfths) {
            to[outcomes] = state;
            part[outcomes] = twelfths;
            outcomes++;
            parts += twelfths;
            goes |= 1 << state;
        }

        void become(Act other) {
            begin(other.kind, other.cost);
            for (int o = 0; o < other.outcomes; o++) {
                addOutcome(other.to[o], other.part[o]);
            }
        }

        int room() {
            return isSingle() ? 1 : OUTCOMES;
        }

        boolean isSingle() {
            return kind == SURE || kind == STOP;
        }

        boolean staysIn(int set) {
            return (goes & ~set) == 0;
        }

        /** Twelve times the average of these numbers over the OUTCOMES: so it stays whole. */
        long mean(long[] numbers) {
            long total = 0;
            for (int o = 0; o < outcomes; o++) {
                total += part[o] * numbers[to[o]];
            }
            return total;
        }

        long heaviness() {
            int plain = cost + 5 * outcomes;
            if (kind == FOE) {
                return plain + 7;
            }
            if (!isSingle()) {
                return plain;
            }
            return kind == STOP ? 2 * (plain + 50) : plain + 50;
        }
    }

    /** The system as it was told; its version tells the others when their findings are stale. */
    private static final class World {
        int states;
        int marked;
        int version = 1;
        final int[] actCounts = new int[STATES];
        final Act[] acts = new Act[STATES * ACTS];

        World() {
            for (int i = 0; i < STATES * ACTS; i++) {
                acts[i] = new Act();
            }
        }

        boolean hasState(int s) {
            return s >= 0 && s < states;
        }

        boolean hasAct(int s, int a) {
            return hasState(s) && a >= 0 && a < actCounts[s];
        }

        Act actAt(int s, int a) {
            return acts[s * ACTS + a];
        }

        boolean isFoes(int s) {
            return actCounts[s] > 0 && acts[s * ACTS].kind == FOE;
        }

        /** The FOE wants the contrary of what is asked for, so the sides change places in LEAST. */
        boolean seeksMost(int s, boolean least) {
            return isFoes(s) == least;
        }

        int everyone() {
            return (1 << states) - 1;
        }

        int addState() {
            version++;
            states++;
            return states - 1;
        }

        int addAct(int s, int kind, int cost) {
            version++;
            actAt(s, actCounts[s]).begin(kind, cost);
            actCounts[s]++;
            return actCounts[s] - 1;
        }

        int addOutcome(Act act, int to, int part) {
            version++;
            act.addOutcome(to, part);
            return act.parts;
        }

        int removeAct(int s) {
            version++;
            actCounts[s]--;
            return actCounts[s];
        }

        void setMarked(int bits) {
            version++;
            marked = bits;
        }

        boolean isWhole() {
            return lacking() == 0;
        }

        int lacking() {
            int total = 0;
            for (int s = 0; s < states; s++) {
                for (int a = 0; a < actCounts[s]; a++) {
                    total += TWELVE - actAt(s, a).parts;
                }
            }
            return total;
        }

        int allActs() {
            int total = 0;
            for (int s = 0; s < states; s++) {
                total += actCounts[s];
            }
            return total;
        }

        int allOutcomes() {
            int total = 0;
            for (int s = 0; s < states; s++) {
                for (int a = 0; a < actCounts[s]; a++) {
                    total += actAt(s, a).outcomes;
                }
            }
            return total;
        }

        int foeActs() {
            int total = 0;
            for (int s = 0; s < states; s++) {
                total += isFoes(s) ? actCounts[s] : 0;
            }
            return total;
        }

        /** All that the ACTS of a STATE that don't lead out of a set lead to. */
        int nextOf(int s, int set) {
            int next = 0;
            for (int a = 0; a < actCounts[s]; a++) {
                Act act = actAt(s, a);
                next |= act.staysIn(set) ? act.goes : 0;
            }
            return next;
        }

        int reachedFrom(int state) {
            int found = 1 << state;
            boolean grows = true;
            for (int round = 0; round < STATES && grows; round++) {
                int before = found;
                for (int s = 0; s < states; s++) {
                    found |= has(found, s) ? nextOf(s, everyone()) : 0;
                }
                grows = found != before;
            }
            return found;
        }
    }

    /** Ways to MARKED STATES that have some chance whatever the side that seeks the least does. */
    private static final class Ways {
        private final World world;
        private final boolean least;
        final int[] way = new int[STATES];

        Ways(World world, boolean least) {
            this.world = world;
            this.least = least;
        }

        /** The STATES with such a way by ACTS that stay in the field. */
        int grow(int field) {
            int near = world.marked;
            boolean grows = true;
            for (int round = 0; round < STATES && grows; round++) {
                int before = near;
                for (int s = 0; s < world.states; s++) {
                    near |= !has(near, s) && join(s, field, near) ? 1 << s : 0;
                }
                grows = near != before;
            }
            return near;
        }

        private boolean join(int s, int field, int near) {
            boolean seeks = world.seeksMost(s, least);
            way[s] = 0;
            for (int a = 0; a < world.actCounts[s]; a++) {
                Act act = world.actAt(s, a);
                boolean leads = act.staysIn(field) && (act.goes & near) != 0;
                if (leads && seeks) {
                    way[s] = a;
                }
                // One ACT settles it: the seeker needs one that leads, the other one that doesn't.
                if (leads == seeks) {
                    return seeks;
                }
            }
            return !seeks && world.actCounts[s] > 0;
        }
    }

    /** Linear equations of up to five STATES, solved in whole numbers over one lower number. */
    private static final class Equations {
        private final long[][] rows = new long[UNKNOWNS][UNKNOWNS + 1];
        private final int[] rowOf = new int[STATES];
        final int[] stateOf = new int[UNKNOWNS];
        int unknowns;
        long lower;

        boolean open(int set) {
            if (Integer.bitCount(set) > UNKNOWNS) {
                return false;
            }
            unknowns = 0;
            for (int s = 0; s < STATES; s++) {
                rowOf[s] = -1;
                if (has(set, s)) {
                    rowOf[s] = unknowns;
                    stateOf[unknowns] = s;
                    unknowns++;
                }
            }
            return true;
        }

        /** Twelve times the unknown less what the ACT's OUTCOMES bring of unknowns is right. */
        void write(int row, Act act, long right) {
            Arrays.fill(rows[row], 0);
            rows[row][row] = TWELVE;
            for (int o = 0; o < act.outcomes; o++) {
                int column = rowOf[act.to[o]];
                if (column >= 0) {
                    rows[row][column] -= act.part[o];
                }
            }
            rows[row][unknowns] = right;
        }

        /**
         * Every entry stays a minor of the first matrix, so each division leaves no rest. The
         * pivots are above 0, since no set of unknowns is stayed in for ever.
         */
        void solve() {
            lower = 1;
            for (int k = 0; k < unknowns; k++) {
                long pivot = rows[k][k];
                for (int i = 0; i < unknowns; i++) {
                    if (i != k) {
                        clear(i, k, pivot);
                    }
                }
                lower = pivot;
            }
        }

        private void clear(int i, int k, long pivot) {
            if (lower == 0) {
                return;
            }
            long factor = rows[i][k];
            for (int j = 0; j <= unknowns; j++) {
                rows[i][j] = (pivot * rows[i][j] - factor * rows[k][j]) / lower;
            }
        }

        long upperOf(int row) {
            return rows[row][unknowns];
        }
    }

    /** MOST or LEAST of all STATES: upper numbers over one lower number. */
    private static final class Verdict {
        private final World world;
        private final boolean least;
        private final Ways ways;
        private final Equations equations = new Equations();
        private int sorted;
        private int settled;
        final long[] upper = new long[STATES];
        long lower;
        int sure;
        int lost;
        boolean told;

        Verdict(World world, boolean least) {
            this.world = world;
            this.least = least;
            ways = new Ways(world, least);
        }

        /** What is sure and what can't be hangs on the ways alone, not on the PARTS. */
        void sort() {
            if (sorted == world.version) {
                return;
            }
            sorted = world.version;
            int everyone = world.everyone();
            int before = -1;
            sure = everyone;
            for (int round = 0; round <= STATES && sure != before; round++) {
                before = sure;
                sure = ways.grow(sure);
            }
            // Last, so that the ways of this growth are those that settle() begins with.
            lost = everyone & ~ways.grow(everyone);
        }

        /**
         * Comes behind sort(). Each side changes its ACTS only where that is better at once, the
         * side that seeks the least first till it is content. The first ways have some chance
         * against all that this side can do, and changes only raise it, so the equations always
         * have one solution.
         */
        void settle() {
            if (settled == world.version) {
                return;
            }
            settled = world.version;
            told = equations.open(world.everyone() & ~sure & ~lost);
            boolean changes = told;
            for (int round = 0; round < ROUNDS && changes; round++) {
                evaluate();
                changes = improve(false) || improve(true);
            }
        }

        private void evaluate() {
            setSureTo(1);
            for (int row = 0; row < equations.unknowns; row++) {
                int s = equations.stateOf[row];
                Act act = world.actAt(s, ways.way[s]);
                equations.write(row, act, act.mean(upper));
            }
            equations.solve();
            lower = equations.lower;
            setSureTo(lower);
            for (int row = 0; row < equations.unknowns; row++) {
                upper[equations.stateOf[row]] = equations.upperOf(row);
            }
        }

        private void setSureTo(long one) {
            for (int s = 0; s < world.states; s++) {
                upper[s] = has(sure, s) ? one : 0;
            }
        }

        private boolean improve(boolean seekers) {
            boolean changes = false;
            for (int row = 0; row < equations.unknowns; row++) {
                int s = equations.stateOf[row];
                if (world.seeksMost(s, least) == seekers) {
                    changes |= improveState(s, seekers);
                }
            }
            return changes;
        }

        private boolean improveState(int s, boolean seeks) {
            int old = ways.way[s];
            long best = TWELVE * upper[s];
            for (int a = 0; a < world.actCounts[s]; a++) {
                long mean = world.actAt(s, a).mean(upper);
                if (seeks ? mean > best : mean < best) {
                    best = mean;
                    ways.way[s] = a;
                }
            }
            return ways.way[s] != old;
        }

        boolean isTight(int s, int a) {
            return world.actAt(s, a).mean(upper) == TWELVE * upper[s];
        }
    }

    /** DISTANCES and THE VERDICT'S CHOICE, once MOST has been told. */
    private static final class Guide {
        private final World world;
        private final Verdict most;
        private int settled;
        final int[] steps = new int[STATES];

        Guide(World world, Verdict most) {
            this.world = world;
            this.most = most;
        }

        void settle() {
            if (settled == world.version) {
                return;
            }
            settled = world.version;
            Arrays.fill(steps, 0);
            int near = world.marked;
            boolean grows = true;
            for (int round = 1; round <= STATES && grows; round++) {
                int next = near;
                for (int s = 0; s < world.states; s++) {
                    if (!has(near, s) && tightActInto(s, near) >= 0) {
                        steps[s] = round;
                        next |= 1 << s;
                    }
                }
                grows = next != near;
                near = next;
            }
        }

        private int tightActInto(int s, int set) {
            for (int a = 0; a < world.actCounts[s]; a++) {
                if ((world.actAt(s, a).goes & set) != 0 && most.isTight(s, a)) {
                    return a;
                }
            }
            return -1;
        }

        int pick(int s) {
            if (has(world.marked, s)) {
                return 0;
            }
            boolean anyWay = has(most.lost, s) || world.isFoes(s);
            return tightActInto(s, anyWay ? world.everyone() : nearerThan(s));
        }

        private int nearerThan(int s) {
            int nearer = 0;
            for (int t = 0; t < world.states; t++) {
                nearer |= !has(most.lost, t) && steps[t] < steps[s] ? 1 << t : 0;
            }
            return nearer;
        }
    }

    /** MOST or LEAST within 0 .. 10 ACTS: upper numbers over powers of twelve. */
    private static final class Horizon {
        private final World world;
        private final boolean least;
        private int settled;
        final long[][] upper = new long[STEPS + 1][STATES];
        final long[] lower = new long[STEPS + 1];

        Horizon(World world, boolean least) {
            this.world = world;
            this.least = least;
        }

        void settle() {
            if (settled == world.version) {
                return;
            }
            settled = world.version;
            lower[0] = 1;
            for (int s = 0; s < world.states; s++) {
                upper[0][s] = has(world.marked, s) ? 1 : 0;
            }
            for (int k = 1; k <= STEPS; k++) {
                lower[k] = TWELVE * lower[k - 1];
                for (int s = 0; s < world.states; s++) {
                    upper[k][s] = has(world.marked, s) ? lower[k] : best(s, upper[k - 1]);
                }
            }
        }

        private long best(int s, long[] later) {
            boolean seeks = world.seeksMost(s, least);
            long best = 0;
            for (int a = 0; a < world.actCounts[s]; a++) {
                long mean = world.actAt(s, a).mean(later);
                if (a == 0 || (seeks ? mean > best : mean < best)) {
                    best = mean;
                }
            }
            return best;
        }
    }

    /** The least COSTS until a MARKED STATE: upper numbers over one lower number. */
    private static final class Prices {
        private final World world;
        private final Verdict most;
        private final Ways ways;
        private final Equations equations = new Equations();
        private int settled;
        final long[] upper = new long[STATES];
        long lower;
        boolean told;

        Prices(World world, Verdict most) {
            this.world = world;
            this.most = most;
            ways = new Ways(world, false);
        }

        /**
         * It begins with ways that are sure to end, and changes an ACT only where that is cheaper
         * at once: a ring that never ends is never cheaper at once, even if it costs nothing.
         */
        void settle() {
            if (settled == world.version) {
                return;
            }
            settled = world.version;
            most.sort();
            told = world.foeActs() == 0 && equations.open(most.sure & ~world.marked);
            if (!told) {
                return;
            }
            ways.grow(most.sure);
            boolean changes = true;
            for (int round = 0; round < ROUNDS && changes; round++) {
                evaluate();
                changes = improve();
            }
        }

        private void evaluate() {
            for (int row = 0; row < equations.unknowns; row++) {
                int s = equations.stateOf[row];
                Act act = world.actAt(s, ways.way[s]);
                equations.write(row, act, TWELVE * act.cost);
            }
            equations.solve();
            lower = equations.lower;
            Arrays.fill(upper, 0);
            for (int row = 0; row < equations.unknowns; row++) {
                upper[equations.stateOf[row]] = equations.upperOf(row);
            }
        }

        private boolean improve() {
            boolean changes = false;
            for (int row = 0; row < equations.unknowns; row++) {
                changes |= improveState(equations.stateOf[row]);
            }
            return changes;
        }

        private boolean improveState(int s) {
            int old = ways.way[s];
            long best = TWELVE * upper[s];
            for (int a = 0; a < world.actCounts[s]; a++) {
                Act act = world.actAt(s, a);
                long price = TWELVE * act.cost * lower + act.mean(upper);
                if (act.staysIn(most.sure) && price < best) {
                    best = price;
                    ways.way[s] = a;
                }
            }
            return ways.way[s] != old;
        }
    }

    /** HOLES: sets of STATES that can be stayed in for ever. */
    private static final class Holes {
        private final World world;
        private final int[] home = new int[STATES];
        private final int[] paths = new int[STATES];
        private int settled;
        final int[] members = new int[STATES];
        int holes;

        Holes(World world) {
            this.world = world;
        }

        void settle() {
            if (settled == world.version) {
                return;
            }
            settled = world.version;
            Arrays.fill(home, world.everyone());
            boolean changes = true;
            for (int round = 0; round < ROUNDS && changes; round++) {
                findPaths();
                changes = narrow();
            }
            gather();
        }

        private void findPaths() {
            for (int s = 0; s < world.states; s++) {
                int next = world.nextOf(s, home[s]);
                // A STATE that can't stay at home goes nowhere, so it falls out of all homes.
                paths[s] = next == 0 ? 0 : next | 1 << s;
            }
            for (int by = 0; by < world.states; by++) {
                for (int s = 0; s < world.states; s++) {
                    paths[s] |= has(paths[s], by) ? paths[by] : 0;
                }
            }
        }

        private boolean narrow() {
            boolean changes = false;
            for (int s = 0; s < world.states; s++) {
                int kept = home[s] & paths[s];
                for (int t = 0; t < world.states; t++) {
                    kept &= has(paths[t], s) ? -1 : ~(1 << t);
                }
                changes |= kept != home[s];
                home[s] = kept;
            }
            return changes;
        }

        private void gather() {
            holes = 0;
            for (int s = 0; s < world.states; s++) {
                boolean isLeast = (home[s] & ((1 << s) - 1)) == 0;
                if (home[s] != 0 && isLeast) {
                    members[holes] = home[s];
                    holes++;
                }
            }
        }

        int stayingActs(int set) {
            int total = 0;
            for (int s = 0; s < world.states; s++) {
                for (int a = 0; has(set, s) && a < world.actCounts[s]; a++) {
                    total += world.actAt(s, a).staysIn(set) ? 1 : 0;
                }
            }
            return total;
        }
    }

    /** CLASSES of STATES that are twins. */
    private static final class Twins {
        private final World world;
        private final int[] next = new int[STATES];
        private final long[] faces = new long[STATES * ACTS];
        private int settled;
        final int[] classOf = new int[STATES];
        int classes;

        Twins(World world) {
            this.world = world;
        }

        void settle() {
            if (settled == world.version) {
                return;
            }
            settled = world.version;
            for (int s = 0; s < world.states; s++) {
                classOf[s] = has(world.marked, s) ? 1 : 0;
            }
            classes = 0;
            int before = -1;
            for (int round = 0; round <= STATES + 1 && classes != before; round++) {
                before = classes;
                readFaces();
                split();
            }
        }

        private void readFaces() {
            for (int s = 0; s < world.states; s++) {
                for (int a = 0; a < world.actCounts[s]; a++) {
                    faces[s * ACTS + a] = faceOf(world.actAt(s, a));
                }
            }
        }

        /** All that twins must share of an ACT: four bits are enough for the PART of each CLASS. */
        private long faceOf(Act act) {
            long face = act.kind == FOE ? 1 : 0;
            face = face << 10 | act.cost;
            face = face << 4 * STATES;
            for (int o = 0; o < act.outcomes; o++) {
                face += (long) act.part[o] << 4 * classOf[act.to[o]];
            }
            return face;
        }

        private void split() {
            classes = 0;
            for (int s = 0; s < world.states; s++) {
                next[s] = -1;
                for (int t = 0; t < s && next[s] < 0; t++) {
                    if (classOf[t] == classOf[s] && covers(s, t) && covers(t, s)) {
                        next[s] = next[t];
                    }
                }
                if (next[s] < 0) {
                    next[s] = classes;
                    classes++;
                }
            }
            System.arraycopy(next, 0, classOf, 0, STATES);
        }

        private boolean covers(int s, int t) {
            for (int a = 0; a < world.actCounts[s]; a++) {
                if (!hasFace(t, faces[s * ACTS + a])) {
                    return false;
                }
            }
            return true;
        }

        private boolean hasFace(int t, long face) {
            for (int a = 0; a < world.actCounts[t]; a++) {
                if (faces[t * ACTS + a] == face) {
                    return true;
                }
            }
            return false;
        }
    }

    /** A SHELF; what it may hold stands ready in it, so that keeping makes no new object. */
    private static final class Shelf {
        int kind = NOTHING;
        long upper;
        int length;
        final Act act = new Act();
        final long[] row = new long[PLACES];

        boolean isRow() {
            return kind == INTS || kind == LONGS;
        }

        boolean hasPlaces(int i, int n) {
            return n >= 0 && i >= 0 && i <= length - n;
        }

        void holdAct(Act other) {
            kind = ACT;
            act.become(other);
        }

        void holdNumber(long number) {
            kind = NUMBER;
            upper = number;
        }

        void holdParts(Act other) {
            beginRow(INTS, other.outcomes);
            for (int o = 0; o < other.outcomes; o++) {
                row[o] = other.part[o];
            }
        }

        void beginRow(int rowKind, int n) {
            kind = rowKind;
            length = n;
            Arrays.fill(row, 0);
        }
    }
}
