/** Promises 17, 18 and CLASSES of 19: HOLES and TWINS. */
public final class StayTest {
    public static void main(String[] args) {
        holesOfOne();
        holesLoseStates();
        holesInOrder();
        holeRefusals();
        twinsOfActs();
        twinsSplitOnAndOn();
        twinRefusals();
        Due.end();
    }

    private static void holesOfOne() {
        ChanceCourt x = Build.states(4);
        Due.is("ends are none", x.hole(0, 0), 0);
        Build.act(x, 0, 3, 0, 0, 12);
        Build.act(x, 1, 0, 0, 1, 11, 0, 1);
        Build.act(x, 2, 2, 0, 2, 12);
        Build.act(x, 2, 2, 0, 2, 12);
        Build.act(x, 2, 2, 0, 1, 12);
        Due.is("two", x.hole(0, 0), 2);
        Due.is("the stop", x.hole(0, 1), 1);
        Due.is("its act", x.hole(0, 2), 1);
        Due.is("the foe's", x.hole(1, 1), 4);
        Due.is("its acts that stay", x.hole(1, 2), 2);
        x.mark(5);
        Due.is("marks are no matter", x.hole(0, 0), 2);
    }

    private static void holesLoseStates() {
        ChanceCourt x = Build.states(5);
        // One ring by some outcome, but 3 can't help leaving: so 2 loses its act to 3.
        Build.act(x, 0, 0, 0, 1, 12);
        Build.act(x, 1, 0, 0, 0, 6, 2, 6);
        Build.act(x, 1, 0, 0, 0, 12);
        Build.act(x, 2, 0, 0, 3, 12);
        Build.act(x, 3, 0, 0, 0, 11, 4, 1);
        Due.is("one", x.hole(0, 0), 1);
        Due.is("0 and 1", x.hole(0, 1), 3);
        Due.is("their acts", x.hole(0, 2), 2);
        x.drop(1);
        Due.is("none", x.hole(0, 0), 0);
        Build.act(x, 4, 0, 0, 3, 12);
        Due.is("all", x.hole(0, 1), 31);
        Due.is("all acts", x.hole(0, 2), 5);
    }

    private static void holesInOrder() {
        ChanceCourt x = Build.states(10);
        for (int s = 0; s < 10; s++) {
            Build.act(x, s, 1, 0, 9 - s, 12);
        }
        Due.is("five", x.hole(-7, 0), 5);
        for (int i = 0; i < 5; i++) {
            Due.is("hole", x.hole(i, 1), 1 << i | 1 << 9 - i);
            Due.is("hole", x.hole(i, 2), 2);
        }
        for (int s = 0; s < 10; s++) {
            Build.act(x, s, 3, 0, s, 12);
            Build.act(x, s, 0, 0, s, 6, (s + 1) % 10, 6);
        }
        Due.is("one", x.hole(0, 0), 1);
        Due.is("all", x.hole(0, 1), 1023);
        Due.is("all acts", x.hole(0, 2), 30);
    }

    private static void holeRefusals() {
        ChanceCourt x = Build.states(2);
        Build.act(x, 0, 3, 0, 0, 12);
        Due.is("what", x.hole(0, 3), -1);
        Due.is("what", x.hole(0, -1), -1);
        Due.is("no such hole", x.hole(1, 1), -1);
        Due.is("no such hole", x.hole(1, 2), -1);
        Due.is("no such hole", x.hole(-1, 1), -1);
        Due.is("no such hole", x.hole(Integer.MAX_VALUE, 2), -1);
        Due.is("how many, whatever i is", x.hole(Integer.MIN_VALUE, 0), 1);
        x.act(1, 0, 0);
        Due.is("not whole", x.hole(0, 0), -2);
        Due.is("not whole comes first", x.hole(5, 1), -2);
        Due.is("what comes first", x.hole(0, 3), -1);
    }

    private static void twinsOfActs() {
        ChanceCourt x = Build.states(6);
        Due.is("all ends", x.count(4), 1);
        x.mark(32);
        Due.is("marked and not", x.count(4), 2);
        Due.is("the least state's is 0", x.twin(0), 0);
        Due.is("marked", x.twin(5), 1);
        Build.act(x, 0, 0, 3, 4, 4, 3, 2, 5, 6);
        Build.act(x, 1, 0, 3, 4, 6, 5, 6);
        classes(x, 0, 0, 1, 1, 1, 2);
        Build.act(x, 1, 0, 3, 5, 6, 3, 6);
        classes(x, 0, 0, 1, 1, 1, 2);
        Build.act(x, 2, 0, 4, 4, 6, 5, 6);
        classes(x, 0, 0, 1, 2, 2, 3);
        x.drop(2);
        Build.act(x, 2, 2, 3, 4, 6, 5, 6);
        classes(x, 0, 0, 1, 2, 2, 3);
        x.drop(2);
        Build.act(x, 2, 0, 3, 4, 5, 5, 7);
        classes(x, 0, 0, 1, 2, 2, 3);
        x.drop(2);
        Build.act(x, 2, 0, 3, 4, 6, 5, 6);
        classes(x, 0, 0, 0, 1, 1, 2);
        Build.act(x, 2, 0, 3, 3, 12);
        classes(x, 0, 0, 1, 2, 2, 3);
        x.drop(2);
        // A STOP and a SURE one look alike: only FOE or not counts.
        Build.act(x, 3, 3, 0, 3, 12);
        Build.act(x, 4, 1, 0, 4, 12);
        classes(x, 0, 0, 0, 1, 1, 2);
        x.mark(31);
        classes(x, 0, 0, 0, 1, 1, 2);
    }

    private static void classes(ChanceCourt x, int... want) {
        int most = 0;
        for (int s = 0; s < want.length; s++) {
            Due.is("twin(" + s + ")", x.twin(s), want[s]);
            most = Math.max(most, want[s] + 1);
        }
        Due.is("count(4)", x.count(4), most);
    }

    private static void twinsSplitOnAndOn() {
        ChanceCourt x = Build.states(10);
        for (int s = 0; s < 9; s++) {
            Build.act(x, s, 1, 0, s + 1, 12);
        }
        classes(x, 0, 1, 2, 3, 4, 5, 6, 7, 8, 9);
        x.mark(512);
        classes(x, 0, 1, 2, 3, 4, 5, 6, 7, 8, 9);
        Build.act(x, 9, 1, 0, 0, 12);
        x.mark(0);
        classes(x, 0, 0, 0, 0, 0, 0, 0, 0, 0, 0);
        x.mark(0b1000010000);
        classes(x, 0, 1, 2, 3, 4, 0, 1, 2, 3, 4);
    }

    private static void twinRefusals() {
        ChanceCourt x = Build.states(2);
        Due.is("state", x.twin(2), -1);
        Due.is("state", x.twin(-1), -1);
        x.act(0, 0, 0);
        Due.is("not whole", x.twin(0), -2);
        Due.is("not whole", x.count(4), -2);
        Due.is("not whole, state", x.twin(2), -1);
        x.drop(0);
        Due.is("whole", x.twin(1), 0);
    }
}
