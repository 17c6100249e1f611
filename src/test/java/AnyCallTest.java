import java.util.ArrayList;
import java.util.List;
import java.util.Random;

/**
 * Wild arguments in all states: nothing but element() throws, and what can be seen afterwards is what a
 * new object shows that was given only those calls that changed something, and weren't refused.
 */
public final class AnyCallTest {
    private static final int[] ODD = {Integer.MIN_VALUE, Integer.MIN_VALUE + 1, -61, -13, -2, -1, 10, 11, 12, 13, 31, 32,
        33, 60, 61, 1000, 1001, 1023, 1024, Integer.MAX_VALUE - 1, Integer.MAX_VALUE};

    private static final int OUTCOME = 2;
    private static final int DROP = 3;
    private static final int BUILDING = 5;
    private static final int CHANGING = 8;
    private static final int CALLS = 25;

    private final Random random;
    private final int tame;
    private final ChanceCourt x = new ChanceCourt();
    private final List<int[]> taken = new ArrayList<>();

    /** Of each ACT of each STATE how many twelfths it has, by the answers alone. */
    private final List<List<Integer>> twelfths = new ArrayList<>();

    private AnyCallTest(Random random) {
        this.random = random;
        this.tame = 60 + random.nextInt(40);
    }

    public static void main(String[] args) {
        Random random = new Random(11);
        for (int run = 0; run < 3000; run++) {
            new AnyCallTest(random).oneRun(run);
        }
        Due.end();
    }

    private void oneRun(int run) {
        int calls = 5 + random.nextInt(100);
        for (int i = 0; i < calls; i++) {
            give(pickCall(), pick(), pick(), pick(), pick(), pick(), random.nextInt(2));
            if (random.nextInt(12) == 0) {
                complete();
            }
        }
        if (run % 4 != 0) {
            complete();
        }
        ChanceCourt y = new ChanceCourt();
        for (int[] a : taken) {
            make(y, a);
        }
        Due.isTrue("run " + run + ": as a new object that was given the taken calls alone",
                Picture.of(x).equals(Picture.of(y)));
    }

    private int pickCall() {
        int group = random.nextInt(6);
        if (group < 3) {
            return random.nextInt(BUILDING);
        }
        return group == 3 ? BUILDING + random.nextInt(CHANGING - BUILDING) : random.nextInt(CALLS);
    }

    private int pick() {
        if (random.nextInt(100) < tame) {
            int kind = random.nextInt(10);
            return kind < 6 ? random.nextInt(4) : random.nextInt(13);
        }
        return random.nextBoolean() ? ODD[random.nextInt(ODD.length)] : random.nextInt(1024);
    }

    /** The call's number, then its arguments, the boolean one last. */
    private long give(int... a) {
        long answer = make(x, a);
        if (a[0] < CHANGING && answer >= 0) {
            taken.add(a);
            note(a, (int) answer);
        }
        return answer;
    }

    private void note(int[] a, int answer) {
        switch (a[0]) {
            case 0: twelfths.add(new ArrayList<>()); break;
            case 1: twelfths.get(a[1]).add(0); break;
            case OUTCOME: twelfths.get(a[1]).set(a[2], answer); break;
            case DROP: twelfths.get(a[1]).remove(answer); break;
            default: break;
        }
    }

    private static long make(ChanceCourt x, int... a) {
        boolean flag = a.length > 6 && a[6] == 1;
        switch (a[0]) {
            case 0: return x.state();
            case 1: return x.act(a[1], a[2], a[3]);
            case OUTCOME: return x.outcome(a[1], a[2], a[3], a[4]);
            case DROP: return x.drop(a[1]);
            case 4: return x.mark(a[1]);
            case 5: return x.keep(a[1], a[2], a[3], a[4]);
            case 6: return x.make(a[1], a[2], a[3]);
            case 7: return x.copy(a[1], a[2], a[3], a[4], a[5]);
            case 8: return x.whole();
            case 9: return x.value(a[1], flag, a[2]);
            case 10: return x.choice(a[1]);
            case 11: return x.distance(a[1]);
            case 12: return x.sum(a[1], a[2], a[3]);
            case 13: return x.within(a[1], a[2], flag, a[3]);
            case 14: return x.bound(a[1], a[2]);
            case 15: return x.sets(a[1]);
            case 16: return x.reached(a[1]);
            case 17: return x.cost(a[1], a[2]);
            case 18: return x.hole(a[1], a[2]);
            case 19: return x.twin(a[1]);
            case 20: return element(x, a[1], a[2]);
            case 21: return x.weight(a[1]);
            case 22: return x.ratio(a[1], a[2]);
            case 23: return x.count(a[1]);
            default: return x.look(a[1], a[2], a[3]);
        }
    }

    /** Makes the system WHOLE, by dropping what can't be completed. */
    private void complete() {
        int n = twelfths.size();
        for (int s = 0; s < n; s++) {
            List<Integer> acts = twelfths.get(s);
            for (int a = 0; a < acts.size(); a++) {
                for (int t = 0; t < n && acts.get(a) < 12; t++) {
                    give(OUTCOME, s, a, (s + t) % n, 12 - acts.get(a));
                }
                for (int last = acts.size() - 1; a < acts.size() && acts.get(a) < 12 && last >= 0; last--) {
                    Due.is("drop(" + s + ")", give(DROP, s), last);
                }
            }
        }
        Due.is("whole", x.whole(), 0);
    }

    private static long element(ChanceCourt x, int d, int i) {
        boolean shelf = d >= 0 && d < 8;
        try {
            long got = x.element(d, i);
            Due.isTrue("element answers for a row alone", shelf && x.weight(d) == -12);
            return got;
        } catch (IllegalArgumentException e) {
            Due.isTrue("no such shelf", !shelf);
        } catch (IllegalStateException e) {
            Due.isTrue("a shelf", shelf);
        }
        return -1;
    }
}
