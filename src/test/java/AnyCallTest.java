import java.util.Random;

/**
 * Wild arguments in all states: nothing but element() throws, a refused call changes nothing,
 * asking changes nothing, and answers hang on what was told alone, not on what was asked before.
 */
public final class AnyCallTest {
    private static final int[] ODD = {Integer.MIN_VALUE, Integer.MIN_VALUE + 1, -61, -13, -2, -1, 10, 11, 12, 13, 31, 32,
        33, 60, 61, 1000, 1001, 1023, 1024, Integer.MAX_VALUE - 1, Integer.MAX_VALUE};

    private static final int BUILDING = 6;
    private static final int CALLS = 26;

    public static void main(String[] args) {
        Random random = new Random(11);
        for (int run = 0; run < 400; run++) {
            oneRun(random, run);
        }
        Due.end();
    }

    private static void oneRun(Random random, int run) {
        ChanceCourt x = new ChanceCourt();
        int marked = 0;
        int tame = 60 + random.nextInt(40);
        for (int i = 0; i < 200; i++) {
            int call = random.nextInt(2) == 0 ? random.nextInt(BUILDING) : random.nextInt(CALLS);
            int[] a = new int[5];
            for (int j = 0; j < 5; j++) {
                a[j] = pick(random, tame);
            }
            boolean flag = random.nextBoolean();
            long before = call >= 18 && call != 20 ? shelves(x) : 0;
            long system = i % 20 == 0 ? system(x) : 0;
            long answer = make(x, call, a, flag);
            if (call == 4 && answer >= 0) {
                marked = a[0];
            }
            if (answer < 0 && call >= 18 && call != 20) {
                Due.is("run " + run + ": a refused call leaves the shelves", shelves(x), before);
            }
            if (i % 20 == 0 && (answer < 0 || call >= BUILDING)) {
                Due.is("run " + run + ": call " + call + " leaves the system", system(x), system);
            }
            if (i % 50 == 49) {
                Due.is("run " + run + ": as a new object that was told the same", findings(x), findings(again(x, marked)));
            }
        }
    }

    private static int pick(Random random, int tame) {
        if (random.nextInt(100) < tame) {
            int kind = random.nextInt(10);
            return kind < 6 ? random.nextInt(4) : random.nextInt(13);
        }
        return random.nextBoolean() ? ODD[random.nextInt(ODD.length)] : random.nextInt(1024);
    }

    private static long make(ChanceCourt x, int call, int[] a, boolean flag) {
        switch (call) {
            case 0: return x.state();
            case 1: return x.act(a[0], a[1], a[2]);
            case 2: return x.outcome(a[0], a[1], a[2], a[3]);
            case 3: return flag ? x.drop(a[0]) : complete(x);
            case 4: return x.mark(a[0]);
            case 5: return complete(x);
            case 6: return x.whole();
            case 7: return x.value(a[0], flag, a[1]);
            case 8: return x.choice(a[0]);
            case 9: return x.distance(a[0]);
            case 10: return x.sum(a[0], a[1], a[2]);
            case 11: return x.within(a[0], a[1], flag, a[2]);
            case 12: return x.bound(a[0], a[1]);
            case 13: return x.sets(a[0]);
            case 14: return x.reached(a[0]);
            case 15: return x.cost(a[0], a[1]);
            case 16: return x.hole(a[0], a[1]);
            case 17: return x.twin(a[0]);
            case 18: return x.keep(a[0], a[1], a[2], a[3]);
            case 19: return x.make(a[0], a[1], a[2]);
            case 20: return element(x, a[0], a[1]);
            case 21: return x.copy(a[0], a[1], a[2], a[3], a[4]);
            case 22: return x.weight(a[0]);
            case 23: return x.ratio(a[0], a[1]);
            case 24: return x.count(a[0]);
            default: return x.look(a[0], a[1], a[2]);
        }
    }

    /** Makes the system WHOLE, by dropping what can't be completed. */
    private static int complete(ChanceCourt x) {
        for (int s = 0; s < x.count(0); s++) {
            for (int a = 0; x.look(s, a, 0) >= 0; a++) {
                int lacking = 12;
                for (int o = 0; o < 4; o++) {
                    lacking -= Math.max(0, x.look(s, a, 7 + o));
                }
                for (int t = 0; t < x.count(0) && lacking > 0; t++) {
                    lacking -= x.outcome(s, a, (s + t) % x.count(0), lacking) == 12 ? lacking : 0;
                }
                while (lacking > 0 && x.look(s, a, 0) >= 0) {
                    x.drop(s);
                }
            }
        }
        Due.is("whole", x.whole(), 0);
        return 0;
    }

    private static long element(ChanceCourt x, int d, int i) {
        boolean shelf = d >= 0 && d < 8;
        try {
            long got = x.element(d, i);
            Due.isTrue("element answers for a row alone", shelf && x.weight(d) == -12);
            return Math.max(0, got);
        } catch (IllegalArgumentException e) {
            Due.isTrue("no such shelf", !shelf);
        } catch (IllegalStateException e) {
            Due.isTrue("a shelf", shelf);
        }
        return -1;
    }

    private static long mix(long seed, long more) {
        return seed * 1000003 + more;
    }

    private static long shelves(ChanceCourt x) {
        long seed = 0;
        for (int d = 0; d < 8; d++) {
            seed = mix(seed, x.weight(d));
            for (int i = 0; i < 61; i++) {
                try {
                    seed = mix(seed, x.element(d, i));
                } catch (IllegalStateException e) {
                    seed = mix(seed, -7);
                    break;
                }
            }
        }
        return seed;
    }

    private static long system(ChanceCourt x) {
        long seed = x.count(0);
        for (int s = 0; s < x.count(0); s++) {
            for (int a = 0; a < 4; a++) {
                for (int what = 0; what <= 10; what++) {
                    seed = mix(seed, x.look(s, a, what));
                }
            }
        }
        return mix(seed, findings(x));
    }

    private static long findings(ChanceCourt x) {
        long seed = x.whole();
        for (int what = 0; what <= 4; what++) {
            seed = mix(mix(seed, x.count(what)), x.sets(what));
        }
        for (int i = 0; i < 10; i++) {
            seed = mix(mix(mix(seed, x.hole(i, 0)), x.hole(i, 1)), x.hole(i, 2));
        }
        for (int s = 0; s < x.count(0); s++) {
            seed = mix(mix(mix(mix(seed, x.choice(s)), x.distance(s)), x.twin(s)), x.reached(s));
            for (int what = 0; what < 2; what++) {
                seed = mix(mix(mix(seed, x.value(s, false, what)), x.value(s, true, what)), x.cost(s, what));
                for (int k = 0; k <= 10; k++) {
                    seed = mix(mix(seed, x.within(s, k, false, what)), x.within(s, k, true, what));
                }
                for (int a = 0; a < 4; a++) {
                    seed = mix(seed, x.sum(s, a, what));
                }
            }
            for (int p = 0; p <= 12; p++) {
                seed = mix(seed, x.bound(s, p));
            }
        }
        return seed;
    }

    private static ChanceCourt again(ChanceCourt x, int marked) {
        ChanceCourt y = new ChanceCourt();
        for (int s = 0; s < x.count(0); s++) {
            y.state();
        }
        for (int s = 0; s < x.count(0); s++) {
            for (int a = 0; x.look(s, a, 0) >= 0; a++) {
                y.act(s, x.look(s, a, 0), x.look(s, a, 1));
                for (int o = 0; o < x.look(s, a, 2); o++) {
                    y.outcome(s, a, x.look(s, a, 3 + o), x.look(s, a, 7 + o));
                }
            }
        }
        y.mark(marked);
        return y;
    }
}
