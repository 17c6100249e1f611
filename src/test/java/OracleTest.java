import java.util.ArrayList;
import java.util.Collections;
import java.util.List;
import java.util.Random;

/** Promises 8 to 18 on random systems, always the same ones, against the oracle. */
public final class OracleTest {
    private static int untold = 0;
    private static int fractions = 0;

    public static void main(String[] args) {
        int systems = args.length > 0 ? Integer.parseInt(args[0]) : 3000;
        long seed = args.length > 1 ? Long.parseLong(args[1]) : 1;
        int most = args.length > 2 ? Integer.parseInt(args[2]) : 1500;
        Random random = new Random(seed);
        for (int i = 0; i < systems && Due.wrong() == 0; i++) {
            Oracle oracle = i % 2 == 0 ? draw(random, most) : drawBetween(random, most);
            compare("system " + i + " ", oracle);
            if (Due.wrong() != 0) {
                show(oracle);
            }
        }
        System.out.println(fractions + " values between 0 and 1, " + untold + " systems can't be told");
        Due.end();
    }

    private static Oracle draw(Random random, int mostChoices) {
        while (true) {
            int n = 1 + random.nextInt(10);
            Oracle o = new Oracle(n);
            int foeChance = random.nextInt(3) * 30;
            int costly = random.nextInt(4) == 0 ? 1001 : 1 + random.nextInt(4);
            int mostActs = 1 + random.nextInt(4);
            int mostOutcomes = 1 + random.nextInt(4);
            int near = random.nextInt(2) == 0 ? n : 1 + random.nextInt(4);
            for (int s = 0; s < n; s++) {
                boolean foe = random.nextInt(100) < foeChance;
                int acts = random.nextInt(6) == 0 ? 0 : 1 + random.nextInt(mostActs);
                for (int a = 0; a < acts; a++) {
                    o.moves.get(s).add(drawMove(random, s, n, foe, random.nextInt(costly), mostOutcomes, near));
                }
            }
            for (int s = 0; s < n; s++) {
                o.marked |= random.nextInt(5) == 0 ? 1 << s : 0;
            }
            if (o.choices() <= mostChoices) {
                return o;
            }
        }
    }

    /** An END that is MARKED, one that isn't, and STATES that mostly come to both with some chance. */
    private static Oracle drawBetween(Random random, int mostChoices) {
        while (true) {
            int n = 3 + random.nextInt(8);
            Oracle o = new Oracle(n);
            int foeChance = random.nextInt(3) * 35;
            int costly = random.nextInt(3) == 0 ? 1001 : 1 + random.nextInt(3);
            int mostActs = 1 + random.nextInt(4);
            for (int s = 0; s < n - 2; s++) {
                boolean foe = random.nextInt(100) < foeChance;
                int acts = 1 + random.nextInt(mostActs);
                for (int a = 0; a < acts; a++) {
                    o.moves.get(s).add(drawMove(random, s, n, foe, random.nextInt(costly), 4, n));
                }
            }
            o.marked = 1 << n - 1;
            if (o.choices() <= mostChoices) {
                return o;
            }
        }
    }

    private static Oracle.Move drawMove(Random random, int s, int n, boolean foe, int cost, int mostOutcomes, int near) {
        int kind = foe ? 2 : random.nextInt(8) == 0 ? 3 : random.nextInt(5) == 0 ? 1 : 0;
        if (kind == 3) {
            return new Oracle.Move(3, cost, new int[] {s}, new int[] {12});
        }
        List<Integer> targets = new ArrayList<>();
        for (int t = 0; t < n; t++) {
            if (Math.floorMod(t - s + near / 2, n) <= near) {
                targets.add(t);
            }
        }
        Collections.shuffle(targets, random);
        int outcomes = kind == 1 ? 1 : Math.min(targets.size(), 1 + random.nextInt(mostOutcomes));
        int[] to = new int[outcomes];
        int[] part = new int[outcomes];
        int left = 12;
        for (int i = 0; i < outcomes; i++) {
            to[i] = targets.get(i);
            int spare = left - (outcomes - 1 - i);
            part[i] = i == outcomes - 1 ? left : random.nextInt(3) == 0 ? 1 : 1 + random.nextInt(spare);
            left -= part[i];
        }
        return new Oracle.Move(kind, cost, to, part);
    }

    private static ChanceCourt tell(Oracle o) {
        ChanceCourt x = Build.states(o.n);
        for (int s = 0; s < o.n; s++) {
            for (Oracle.Move act : o.moves.get(s)) {
                int a = x.act(s, act.kind, act.cost);
                for (int i = 0; i < act.to.length; i++) {
                    x.outcome(s, a, act.to[i], act.part[i]);
                }
            }
        }
        Due.is("mark", x.mark(o.marked), Integer.bitCount(o.marked));
        Due.is("whole", x.whole(), 0);
        return x;
    }

    /** Several objects are told the same, since one is used for 512 calls at most. */
    private static void compare(String run, Oracle o) {
        ChanceCourt x = tell(o);
        for (int what = 0; what < 4; what++) {
            Due.is(run + "sets(" + what + ")", x.sets(what), o.sets(what));
        }
        compareValues(run, o, x, false);
        compareValues(run, o, x, true);
        compareChoices(run, o, x);
        compareWithin(run, o, false);
        compareWithin(run, o, true);
        compareCosts(run, o, x);
        compareHoles(run, o, x);
        compareTwins(run, o, x);
        for (int s = 0; s < o.n; s++) {
            Due.is(run + "reached(" + s + ")", x.reached(s), o.reached(s));
        }
    }

    private static void fraction(String call, long upper, long lower, Ratio want) {
        Due.is(call + " upper", upper, want.upper.longValueExact());
        Due.is(call + " lower", lower, want.lower.longValueExact());
    }

    private static void compareValues(String run, Oracle o, ChanceCourt x, boolean least) {
        boolean told = o.told(least);
        untold += told ? 0 : 1;
        for (int s = 0; s < o.n; s++) {
            String call = run + "value(" + s + ", " + least + ")";
            if (told) {
                Ratio want = o.values(least)[s];
                fractions += want.isZero() || want.same(Ratio.ONE) ? 0 : 1;
                fraction(call, x.value(s, least, 0), x.value(s, least, 1), want);
            } else {
                Due.is(call, x.value(s, least, 0), -3);
            }
        }
    }

    private static void compareChoices(String run, Oracle o, ChanceCourt x) {
        boolean told = o.told(false);
        int[] d = told ? o.distances() : null;
        for (int s = 0; s < o.n; s++) {
            Due.is(run + "distance(" + s + ")", x.distance(s), !told ? -3 : d[s] == 1000 ? -4 : d[s]);
            int acts = o.moves.get(s).size();
            Due.is(run + "choice(" + s + ")", x.choice(s), acts == 0 ? -1 : told ? o.choice(s, d) : -3);
            for (int a = 0; a < acts; a++) {
                String call = run + "sum(" + s + ", " + a + ")";
                if (told) {
                    fraction(call, x.sum(s, a, 0), x.sum(s, a, 1), o.mean(o.moves.get(s).get(a), o.values(false)));
                } else {
                    Due.is(call, x.sum(s, a, 1), -3);
                }
            }
        }
    }

    private static void compareWithin(String run, Oracle o, boolean least) {
        Ratio[][] known = new Ratio[11][o.n];
        ChanceCourt x = null;
        for (int s = 0; s < o.n; s++) {
            x = s % 5 == 0 ? tell(o) : x;
            for (int k = 0; k <= 10; k++) {
                fraction(run + "within(" + s + ", " + k + ", " + least + ")",
                        x.within(s, k, least, 0), x.within(s, k, least, 1), o.within(s, k, least, known));
            }
            for (int p = 0; p <= 12 && !least; p++) {
                int k = 0;
                while (k <= 10 && known[k][s].compareTo(Ratio.of(p, 12)) < 0) {
                    k++;
                }
                Due.is(run + "bound(" + s + ", " + p + ")", x.bound(s, p), k > 10 ? -3 : k);
            }
        }
    }

    private static void compareCosts(String run, Oracle o, ChanceCourt x) {
        boolean told = !o.hasFoes() && Integer.bitCount(o.sets(0) & ~o.marked) <= 5;
        for (int s = 0; s < o.n; s++) {
            String call = run + "cost(" + s + ")";
            if (!told) {
                Due.is(call, x.cost(s, 0), -3);
            } else if (o.costs()[s] == null) {
                Due.is(call, x.cost(s, 1), -4);
            } else {
                fraction(call, x.cost(s, 0), x.cost(s, 1), o.costs()[s]);
            }
        }
    }

    private static void compareHoles(String run, Oracle o, ChanceCourt x) {
        List<Integer> holes = o.holes();
        Due.is(run + "hole(0, 0)", x.hole(0, 0), holes.size());
        for (int i = 0; i < holes.size(); i++) {
            Due.is(run + "hole(" + i + ", 1)", x.hole(i, 1), holes.get(i));
            Due.is(run + "hole(" + i + ", 2)", x.hole(i, 2), o.actsIn(holes.get(i)));
        }
        Due.is(run + "no such hole", x.hole(holes.size(), 1), -1);
    }

    private static void compareTwins(String run, Oracle o, ChanceCourt x) {
        int[] lead = o.twins();
        int[] number = new int[o.n];
        int classes = 0;
        for (int s = 0; s < o.n; s++) {
            number[s] = lead[s] == s ? classes++ : number[lead[s]];
            Due.is(run + "twin(" + s + ")", x.twin(s), number[s]);
        }
        Due.is(run + "count(4)", x.count(4), classes);
    }

    private static void show(Oracle o) {
        System.out.println("marked " + o.marked);
        for (int s = 0; s < o.n; s++) {
            for (Oracle.Move act : o.moves.get(s)) {
                System.out.println("state " + s + " kind " + act.kind + " cost " + act.cost + " to "
                        + java.util.Arrays.toString(act.to) + " parts " + java.util.Arrays.toString(act.part));
            }
        }
    }
}
