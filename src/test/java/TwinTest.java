import java.util.Arrays;
import java.util.Random;

/** Promise 18, where nine CLASSES are there: STATES 0 and 1 are twins only if the PART of each CLASS is the same. */
public final class TwinTest {
    private static final int PLAIN = 0;
    private static final int STOP = 3;
    private static final int FIRST = 2;
    private static final int STATES = 10;

    /** An object takes 10 + 8 * 2 calls, and 5 for STATE 0; a pair is of 7 at most. */
    private static final int PAIRS = 68;

    public static void main(String[] args) {
        Random random = new Random(18);
        for (int system = 0; system < 1000; system++) {
            int[] first = draw(random);
            ChanceCourt x = begin(first);
            for (int pair = 0; pair < PAIRS; pair++) {
                int[] second = pair == 0 ? first : draw(random);
                boolean twins = Arrays.equals(first, second);
                tell(x, 1, second);
                Due.is("twin(1) of " + Arrays.toString(first) + ", " + Arrays.toString(second), x.twin(1), twins ? 0 : 1);
                x.drop(1);
            }
        }
        Due.end();
    }

    /** STATES 2 .. 9 are CLASSES of their own by their COSTS. */
    private static ChanceCourt begin(int[] parts) {
        ChanceCourt x = Build.states(STATES);
        for (int s = FIRST; s < STATES; s++) {
            Build.act(x, s, STOP, s, s, 12);
        }
        tell(x, 0, parts);
        return x;
    }

    private static void tell(ChanceCourt x, int s, int[] parts) {
        x.act(s, PLAIN, 1);
        for (int t = FIRST; t < STATES; t++) {
            if (parts[t] > 0) {
                x.outcome(s, 0, t, parts[t]);
            }
        }
    }

    private static int[] draw(Random random) {
        int[] parts = new int[STATES];
        int left = 12;
        for (int outcome = 0; outcome < 3 && left > 1; outcome++) {
            int part = 1 + random.nextInt(left - 1);
            parts[FIRST + random.nextInt(STATES - FIRST)] += part;
            left -= part;
        }
        parts[FIRST + random.nextInt(STATES - FIRST)] += left;
        return parts;
    }
}
