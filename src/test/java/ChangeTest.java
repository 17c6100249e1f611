/**
 * Answers hang on the system as it is, whatever was asked, and when: objects that were asked before
 * and between any three changes look like one that was asked nothing.
 */
public final class ChangeTest {
    private static final int PLAIN = 0;
    private static final int SURE = 1;
    private static final int FOE = 2;
    private static final int CHANGES = 8;

    public static void main(String[] args) {
        for (int first = 0; first < CHANGES; first++) {
            for (int second = 0; second < CHANGES; second++) {
                for (int third = 0; third < CHANGES; third++) {
                    compare(first, second, third);
                }
            }
        }
        Due.end();
    }

    private static void compare(int... changes) {
        String never = after(0, changes);
        // Each bit tells whether all is asked ahead of that change.
        for (int asked = 1; asked < 8; asked++) {
            String seen = after(asked, changes);
            String run = "changes " + changes[0] + ", " + changes[1] + ", " + changes[2] + ", asked " + asked;
            Due.isTrue(run, seen.equals(never));
        }
    }

    private static String after(int asked, int[] changes) {
        ChanceCourt x = Build.states(4);
        Build.act(x, 0, PLAIN, 4, 0, 6, 1, 4, 2, 2);
        Build.act(x, 3, PLAIN, 1, 0, 11, 2, 1);
        x.mark(2);
        for (int i = 0; i < changes.length; i++) {
            if ((asked >> i & 1) == 1) {
                askAll(x);
            }
            change(x, changes[i]);
        }
        return Picture.of(x);
    }

    private static void change(ChanceCourt x, int number) {
        switch (number) {
            case 0: x.state(); break;
            case 1: x.act(2, SURE, 3); break;
            case 2: x.outcome(2, 0, 0, 12); break;
            case 3: x.drop(2); break;
            case 4: x.mark(4); break;
            case 5: x.mark(9); break;
            case 6: x.drop(3); break;
            default: x.act(3, FOE, 0); break;
        }
    }

    private static void askAll(ChanceCourt x) {
        x.value(0, false, 0);
        x.value(0, true, 0);
        x.choice(0);
        x.distance(0);
        x.sum(0, 0, 0);
        x.within(0, 2, false, 0);
        x.within(0, 2, true, 0);
        x.bound(0, 6);
        x.sets(0);
        x.sets(2);
        x.cost(0, 0);
        x.hole(0, 1);
        x.twin(0);
        x.reached(0);
    }
}
