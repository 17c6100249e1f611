import java.util.ArrayList;
import java.util.Arrays;
import java.util.List;
import java.util.TreeMap;
import java.util.TreeSet;

/** The document's terms taken at their word: every CHOICE is tried, every set of STATES looked at. */
final class Oracle {
    static final class Move {
        final int kind;
        final int cost;
        final int[] to;
        final int[] part;

        Move(int kind, int cost, int[] to, int[] part) {
            this.kind = kind;
            this.cost = cost;
            this.to = to;
            this.part = part;
        }

        int goes() {
            int bits = 0;
            for (int t : to) {
                bits |= 1 << t;
            }
            return bits;
        }
    }

    final int n;
    final List<List<Move>> moves = new ArrayList<>();
    int marked;

    private Ratio[] mostKnown;
    private Ratio[] leastKnown;
    private Ratio[] costKnown;

    Oracle(int n) {
        this.n = n;
        for (int s = 0; s < n; s++) {
            moves.add(new ArrayList<>());
        }
    }

    boolean foes(int s) {
        return !moves.get(s).isEmpty() && moves.get(s).get(0).kind == 2;
    }

    boolean isMarked(int s) {
        return (marked >> s & 1) == 1;
    }

    long choices() {
        long all = 1;
        for (List<Move> m : moves) {
            all *= Math.max(1, m.size());
        }
        return all;
    }

    private boolean next(int[] pick, boolean foeSide) {
        for (int s = 0; s < n; s++) {
            if (foes(s) == foeSide && !moves.get(s).isEmpty()) {
                if (++pick[s] < moves.get(s).size()) {
                    return true;
                }
                pick[s] = 0;
            }
        }
        return false;
    }

    private static Ratio[] solve(Ratio[][] m, int size) {
        for (int k = 0; k < size; k++) {
            int p = k;
            while (m[p][k].isZero()) {
                p++;
            }
            Ratio[] swap = m[p];
            m[p] = m[k];
            m[k] = swap;
            for (int i = 0; i < size; i++) {
                if (i != k && !m[i][k].isZero()) {
                    Ratio f = m[i][k].by(m[k][k]);
                    for (int j = k; j <= size; j++) {
                        m[i][j] = m[i][j].minus(f.times(m[k][j]));
                    }
                }
            }
        }
        Ratio[] x = new Ratio[size];
        for (int k = 0; k < size; k++) {
            x[k] = m[k][size].by(m[k][k]);
        }
        return x;
    }

    /** The CHANCES under a CHOICE. */
    Ratio[] chances(int[] pick) {
        int can = marked;
        for (int round = 0; round < n; round++) {
            for (int s = 0; s < n; s++) {
                if (!moves.get(s).isEmpty() && (moves.get(s).get(pick[s]).goes() & can) != 0) {
                    can |= 1 << s;
                }
            }
        }
        int[] row = new int[n];
        int size = 0;
        for (int s = 0; s < n; s++) {
            row[s] = (can >> s & 1) == 1 && !isMarked(s) ? size++ : -1;
        }
        Ratio[][] m = new Ratio[size][size + 1];
        for (int s = 0; s < n; s++) {
            if (row[s] >= 0) {
                Arrays.fill(m[row[s]], Ratio.ZERO);
                m[row[s]][row[s]] = Ratio.ONE;
                Move act = moves.get(s).get(pick[s]);
                for (int o = 0; o < act.to.length; o++) {
                    int column = isMarked(act.to[o]) ? size : row[act.to[o]];
                    Ratio part = Ratio.of(act.part[o], 12);
                    if (column == size) {
                        m[row[s]][size] = m[row[s]][size].plus(part);
                    } else if (column >= 0) {
                        m[row[s]][column] = m[row[s]][column].minus(part);
                    }
                }
            }
        }
        Ratio[] x = solve(m, size);
        Ratio[] all = new Ratio[n];
        for (int s = 0; s < n; s++) {
            all[s] = isMarked(s) ? Ratio.ONE : row[s] >= 0 ? x[row[s]] : Ratio.ZERO;
        }
        return all;
    }

    private static Ratio better(Ratio a, Ratio b, boolean most) {
        if (a == null) {
            return b;
        }
        return (a.compareTo(b) < 0) == most ? b : a;
    }

    Ratio[] values(boolean least) {
        if (least ? leastKnown == null : mostKnown == null) {
            Ratio[] found = tryAll(least);
            if (least) {
                leastKnown = found;
            } else {
                mostKnown = found;
            }
        }
        return least ? leastKnown : mostKnown;
    }

    private Ratio[] tryAll(boolean least) {
        Ratio[] best = new Ratio[n];
        int[] pick = new int[n];
        do {
            Ratio[] answer = new Ratio[n];
            do {
                Ratio[] chance = chances(pick);
                for (int s = 0; s < n; s++) {
                    answer[s] = better(answer[s], chance[s], least);
                }
            } while (next(pick, true));
            for (int s = 0; s < n; s++) {
                best[s] = better(best[s], answer[s], !least);
            }
        } while (next(pick, false));
        return best;
    }

    int sets(int what) {
        Ratio[] v = values(what >= 2);
        int bits = 0;
        for (int s = 0; s < n; s++) {
            bits |= v[s].same(what % 2 == 0 ? Ratio.ONE : Ratio.ZERO) ? 1 << s : 0;
        }
        return bits;
    }

    boolean told(boolean least) {
        return n - Integer.bitCount(sets(least ? 2 : 0)) - Integer.bitCount(sets(least ? 3 : 1)) <= 5;
    }

    Ratio mean(Move act, Ratio[] v) {
        Ratio total = Ratio.ZERO;
        for (int o = 0; o < act.to.length; o++) {
            total = total.plus(Ratio.of(act.part[o], 12).times(v[act.to[o]]));
        }
        return total;
    }

    private boolean tight(int s, int a) {
        return mean(moves.get(s).get(a), values(false)).same(values(false)[s]);
    }

    /** Large for LOST ones. */
    int[] distances() {
        int[] d = new int[n];
        Arrays.fill(d, 1000);
        for (int round = 0; round <= n; round++) {
            for (int s = 0; s < n; s++) {
                if (isMarked(s)) {
                    d[s] = 0;
                    continue;
                }
                for (int a = 0; a < moves.get(s).size(); a++) {
                    for (int t : moves.get(s).get(a).to) {
                        if (tight(s, a) && d[t] + 1 < d[s]) {
                            d[s] = d[t] + 1;
                        }
                    }
                }
            }
        }
        return d;
    }

    int choice(int s, int[] d) {
        boolean free = foes(s) || values(false)[s].isZero();
        for (int a = 0; a < moves.get(s).size(); a++) {
            if (isMarked(s)) {
                return a;
            }
            boolean nearer = free;
            for (int t : moves.get(s).get(a).to) {
                nearer |= d[t] < d[s];
            }
            if (nearer && tight(s, a)) {
                return a;
            }
        }
        return -1;
    }

    Ratio within(int s, int k, boolean least, Ratio[][] known) {
        if (known[k][s] != null) {
            return known[k][s];
        }
        Ratio best = isMarked(s) ? Ratio.ONE : Ratio.ZERO;
        if (!isMarked(s) && k > 0 && !moves.get(s).isEmpty()) {
            best = null;
            for (Move act : moves.get(s)) {
                Ratio total = Ratio.ZERO;
                for (int o = 0; o < act.to.length; o++) {
                    total = total.plus(Ratio.of(act.part[o], 12).times(within(act.to[o], k - 1, least, known)));
                }
                best = better(best, total, foes(s) == least);
            }
        }
        known[k][s] = best;
        return best;
    }

    boolean hasFoes() {
        for (int s = 0; s < n; s++) {
            if (foes(s)) {
                return true;
            }
        }
        return false;
    }

    /** The least COSTS where there are no FOE ACTS; null for STATES that aren't SURE. */
    Ratio[] costs() {
        if (costKnown != null) {
            return costKnown;
        }
        costKnown = new Ratio[n];
        int[] pick = new int[n];
        do {
            Ratio[] chance = chances(pick);
            Ratio[] paid = paid(pick, chance);
            for (int s = 0; s < n; s++) {
                if (chance[s].same(Ratio.ONE)) {
                    costKnown[s] = better(costKnown[s], paid[s], false);
                }
            }
        } while (next(pick, false));
        return costKnown;
    }

    private Ratio[] paid(int[] pick, Ratio[] chance) {
        int[] row = new int[n];
        int size = 0;
        for (int s = 0; s < n; s++) {
            row[s] = chance[s].same(Ratio.ONE) && !isMarked(s) ? size++ : -1;
        }
        Ratio[][] m = new Ratio[size][size + 1];
        for (int s = 0; s < n; s++) {
            if (row[s] >= 0) {
                Arrays.fill(m[row[s]], Ratio.ZERO);
                m[row[s]][row[s]] = Ratio.ONE;
                Move act = moves.get(s).get(pick[s]);
                m[row[s]][size] = Ratio.of(act.cost, 1);
                for (int o = 0; o < act.to.length; o++) {
                    int column = row[act.to[o]];
                    if (column >= 0) {
                        m[row[s]][column] = m[row[s]][column].minus(Ratio.of(act.part[o], 12));
                    }
                }
            }
        }
        Ratio[] x = solve(m, size);
        Ratio[] all = new Ratio[n];
        for (int s = 0; s < n; s++) {
            all[s] = row[s] >= 0 ? x[row[s]] : Ratio.ZERO;
        }
        return all;
    }

    private int walk(int from, int set) {
        int found = 1 << from;
        for (int round = 0; round < n; round++) {
            for (int s = 0; s < n; s++) {
                if ((found >> s & 1) == 1) {
                    for (Move act : moves.get(s)) {
                        found |= (act.goes() & ~set) == 0 ? act.goes() : 0;
                    }
                }
            }
        }
        return found;
    }

    int reached(int s) {
        return walk(s, -1);
    }

    private boolean canStay(int set) {
        for (int s = 0; s < n; s++) {
            if ((set >> s & 1) == 1) {
                boolean has = false;
                for (Move act : moves.get(s)) {
                    has |= (act.goes() & ~set) == 0;
                }
                if (!has || walk(s, set) != set) {
                    return false;
                }
            }
        }
        return true;
    }

    List<Integer> holes() {
        List<Integer> all = new ArrayList<>();
        for (int set = 1; set < 1 << n; set++) {
            if (canStay(set)) {
                all.add(set);
            }
        }
        List<Integer> greatest = new ArrayList<>();
        for (int set : all) {
            boolean inside = false;
            for (int other : all) {
                inside |= other != set && (set & ~other) == 0;
            }
            if (!inside) {
                greatest.add(set);
            }
        }
        greatest.sort((a, b) -> Integer.compare(Integer.numberOfTrailingZeros(a), Integer.numberOfTrailingZeros(b)));
        return greatest;
    }

    int actsIn(int set) {
        int total = 0;
        for (int s = 0; s < n; s++) {
            for (Move act : moves.get(s)) {
                total += (set >> s & 1) == 1 && (act.goes() & ~set) == 0 ? 1 : 0;
            }
        }
        return total;
    }

    /** The least STATE of the CLASS of each STATE. */
    int[] twins() {
        int[] lead = new int[n];
        for (int s = 0; s < n; s++) {
            lead[s] = isMarked(s) ? 1 : 0;
        }
        for (int round = 0; round <= n + 1; round++) {
            String[] face = new String[n];
            for (int s = 0; s < n; s++) {
                TreeSet<String> acts = new TreeSet<>();
                for (Move act : moves.get(s)) {
                    TreeMap<Integer, Integer> parts = new TreeMap<>();
                    for (int o = 0; o < act.to.length; o++) {
                        parts.merge(lead[act.to[o]], act.part[o], Integer::sum);
                    }
                    acts.add(act.cost + "/" + (act.kind == 2) + "/" + parts);
                }
                face[s] = lead[s] + ":" + acts;
            }
            int[] next = new int[n];
            for (int s = n - 1; s >= 0; s--) {
                for (int t = n - 1; t >= 0; t--) {
                    next[s] = face[t].equals(face[s]) ? t : next[s];
                }
            }
            lead = next;
        }
        return lead;
    }
}
