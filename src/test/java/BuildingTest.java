/** Promises 1 to 7, 15, 19 and 20: what is told to the court and how it is seen. */
public final class BuildingTest {
    private static final int MIN = Integer.MIN_VALUE;
    private static final int MAX = Integer.MAX_VALUE;

    public static void main(String[] args) {
        newObject();
        stateCalls();
        actCalls();
        outcomeCalls();
        dropCalls();
        markCalls();
        wholeCalls();
        reachedCalls();
        countCalls();
        lookCalls();
        Due.end();
    }

    private static void newObject() {
        ChanceCourt x = new ChanceCourt();
        for (int what = 0; what <= 4; what++) {
            Due.is("count of a new object", x.count(what), 0);
        }
        Due.is("whole", x.whole(), 0);
        for (int what = 0; what <= 3; what++) {
            Due.is("sets of a new object", x.sets(what), 0);
        }
        Due.is("hole", x.hole(0, 0), 0);
        Due.is("hole", x.hole(0, 1), -1);
        Due.is("value", x.value(0, false, 0), -1);
        for (int d = 0; d < 8; d++) {
            Due.is("weight", x.weight(d), -11);
            Due.elementThrows(x, d, 0, 2);
        }
        x.state();
        Due.is("no state is marked", x.sets(0), 0);
        Due.is("no state is marked", x.sets(1), 1);
    }

    private static void stateCalls() {
        ChanceCourt x = new ChanceCourt();
        for (int s = 0; s < 10; s++) {
            Due.is("state()", x.state(), s);
        }
        Due.is("state()", x.state(), -2);
        Due.is("state()", x.state(), -2);
        Due.is("count(0)", x.count(0), 10);
    }

    private static void actCalls() {
        ChanceCourt x = Build.states(2);
        Due.is("no such state", x.act(2, 0, 0), -1);
        Due.is("no such state", x.act(-1, 0, 0), -1);
        Due.is("no such state", x.act(MIN, 0, 0), -1);
        Due.is("no such state", x.act(MAX, 0, 0), -1);
        Due.is("no such kind", x.act(0, 4, 0), -1);
        Due.is("no such kind", x.act(0, -1, 0), -1);
        Due.is("cost", x.act(0, 0, -1), -1);
        Due.is("cost", x.act(0, 0, 1001), -1);
        Due.is("count(1)", x.count(1), 0);
        Due.is("act", x.act(0, 0, 1000), 0);
        Due.is("foe beside plain", x.act(0, 2, 0), -3);
        Due.is("act", x.act(0, 1, 0), 1);
        Due.is("act", x.act(0, 3, 0), 2);
        Due.is("foe beside plain", x.act(0, 2, 0), -3);
        Due.is("act", x.act(0, 0, 7), 3);
        Due.is("fifth", x.act(0, 0, 7), -2);
        Due.is("fifth, of the other side", x.act(0, 2, 7), -2);
        Due.is("fifth, out of range", x.act(0, 2, 1001), -1);
        for (int a = 0; a < 3; a++) {
            Due.is("foe", x.act(1, 2, a), a);
        }
        Due.is("plain beside foe", x.act(1, 0, 0), -3);
        Due.is("sure beside foe", x.act(1, 1, 0), -3);
        Due.is("stop beside foe", x.act(1, 3, 0), -3);
        Due.is("foe", x.act(1, 2, 3), 3);
        Due.is("fifth", x.act(1, 0, 3), -2);
        for (int left = 3; left >= 0; left--) {
            Due.is("drop", x.drop(1), left);
        }
        Due.is("plain after all foe acts went", x.act(1, 0, 3), 0);
        Due.is("foe beside plain", x.act(1, 2, 3), -3);
    }

    private static void outcomeCalls() {
        ChanceCourt x = Build.states(6);
        Due.is("no such act", x.outcome(0, 0, 0, 1), -1);
        x.act(0, 0, 0);
        Due.is("no such act", x.outcome(0, 1, 0, 1), -1);
        Due.is("no such act", x.outcome(0, -1, 0, 1), -1);
        Due.is("no such state", x.outcome(6, 0, 0, 1), -1);
        Due.is("no such state", x.outcome(-1, 0, 0, 1), -1);
        Due.is("no such outcome", x.outcome(0, 0, 6, 1), -1);
        Due.is("no such outcome", x.outcome(0, 0, -1, 1), -1);
        Due.is("part", x.outcome(0, 0, 0, 0), -1);
        Due.is("part", x.outcome(0, 0, 0, 13), -1);
        Due.is("part", x.outcome(0, 0, 0, MIN), -1);
        Due.is("part", x.outcome(0, 0, 0, MAX), -1);
        Due.is("outcome", x.outcome(0, 0, 1, 3), 3);
        Due.is("the same", x.outcome(0, 0, 1, 3), -3);
        Due.is("too many twelfths", x.outcome(0, 0, 2, 10), -3);
        Due.is("outcome", x.outcome(0, 0, 2, 3), 6);
        Due.is("outcome", x.outcome(0, 0, 3, 3), 9);
        Due.is("outcome", x.outcome(0, 0, 4, 1), 10);
        Due.is("fifth", x.outcome(0, 0, 5, 1), -2);
        Due.is("fifth, the same, too many", x.outcome(0, 0, 4, 12), -2);
        Due.is("fifth, out of range", x.outcome(0, 0, 4, 13), -1);
        Due.is("whole", x.whole(), 2);
        x.act(0, 1, 0);
        Due.is("sure", x.outcome(0, 1, 5, 4), 4);
        Due.is("second of a sure one", x.outcome(0, 1, 4, 4), -2);
        Due.is("second of a sure one", x.outcome(0, 1, 5, 8), -2);
        x.act(0, 3, 0);
        Due.is("stop elsewhere", x.outcome(0, 2, 1, 12), -1);
        Due.is("stop", x.outcome(0, 2, 0, 12), 12);
        Due.is("second of a stop", x.outcome(0, 2, 0, 12), -2);
        Due.is("second of a stop, elsewhere", x.outcome(0, 2, 1, 12), -1);
        x.act(1, 2, 0);
        for (int s = 0; s < 4; s++) {
            Due.is("foe", x.outcome(1, 0, s, 3), 3 * s + 3);
        }
        x.act(2, 0, 0);
        Due.is("all twelve", x.outcome(2, 0, 2, 12), 12);
        Due.is("more than twelve", x.outcome(2, 0, 3, 1), -3);
    }

    private static void dropCalls() {
        ChanceCourt x = Build.states(2);
        Due.is("no such state", x.drop(2), -1);
        Due.is("no such state", x.drop(-1), -1);
        Due.is("none", x.drop(0), -2);
        Build.act(x, 0, 0, 5, 0, 6, 1, 6);
        Build.act(x, 0, 1, 9, 1, 4);
        Due.is("whole", x.whole(), 8);
        Due.is("drop", x.drop(0), 1);
        Due.is("whole", x.whole(), 0);
        Due.is("look", x.look(0, 1, 0), -1);
        Due.is("look", x.look(0, 0, 1), 5);
        Due.is("a new act has no old outcomes", x.act(0, 0, 1), 1);
        Due.is("a new act has no old outcomes", x.look(0, 1, 2), 0);
        Due.is("a new act has no old outcomes", x.outcome(0, 1, 1, 12), 12);
        Due.is("drop", x.drop(0), 1);
        Due.is("drop", x.drop(0), 0);
        Due.is("drop", x.drop(0), -2);
        Due.is("reached", x.reached(0), 1);
    }

    private static void markCalls() {
        ChanceCourt x = Build.states(3);
        Due.is("mark", x.mark(5), 2);
        Due.is("sets", x.sets(0), 5);
        Due.is("mark", x.mark(8), -1);
        Due.is("mark", x.mark(7 + 1024), -1);
        Due.is("mark", x.mark(-1), -1);
        Due.is("mark", x.mark(MIN), -1);
        Due.is("a refused mark changes nothing", x.sets(0), 5);
        Due.is("mark", x.mark(7), 3);
        Due.is("mark", x.mark(0), 0);
        Due.is("sets", x.sets(0), 0);
        ChanceCourt y = Build.states(10);
        Due.is("mark", y.mark(1023), 10);
        Due.is("mark", y.mark(1024), -1);
        Due.is("sets", y.sets(0), 1023);
    }

    private static void wholeCalls() {
        ChanceCourt x = Build.states(2);
        Due.is("whole", x.whole(), 0);
        x.act(0, 0, 0);
        Due.is("whole", x.whole(), 12);
        x.act(1, 1, 0);
        Due.is("whole", x.whole(), 24);
        x.outcome(0, 0, 1, 5);
        Due.is("whole", x.whole(), 19);
        x.outcome(1, 0, 1, 11);
        Due.is("whole", x.whole(), 8);
        x.outcome(0, 0, 0, 7);
        Due.is("whole", x.whole(), 1);
    }

    private static void reachedCalls() {
        ChanceCourt x = Build.states(10);
        Due.is("reached", x.reached(10), -1);
        Due.is("reached", x.reached(-1), -1);
        for (int s = 9; s > 0; s--) {
            Due.is("an end reaches itself", x.reached(s), 1 << s);
            x.act(s, s % 2 == 0 ? 0 : 2, 0);
            x.outcome(s, 0, s - 1, 1);
        }
        for (int s = 0; s < 10; s++) {
            Due.is("not whole, down the chain", x.reached(s), (1 << s + 1) - 1);
        }
        x.act(0, 0, 0);
        Due.is("an act without outcomes", x.reached(0), 1);
        x.outcome(0, 0, 9, 1);
        Due.is("a ring", x.reached(4), 1023);
    }

    private static void countCalls() {
        ChanceCourt x = Build.states(4);
        Build.act(x, 0, 0, 0, 1, 3, 2, 9);
        Build.act(x, 0, 1, 0, 1, 12);
        Build.act(x, 1, 2, 0, 1, 1, 2, 1, 3, 1);
        Build.act(x, 1, 2, 0);
        Due.is("states", x.count(0), 4);
        Due.is("acts", x.count(1), 4);
        Due.is("outcomes", x.count(2), 6);
        Due.is("foe acts", x.count(3), 2);
        Due.is("classes, not whole", x.count(4), -2);
        Due.is("count", x.count(5), -1);
        Due.is("count", x.count(-1), -1);
        Due.is("count", x.count(MIN), -1);
        x.drop(1);
        Due.is("foe acts", x.count(3), 1);
        x.drop(1);
        Due.is("foe acts", x.count(3), 0);
        Due.is("outcomes", x.count(2), 3);
        Due.is("classes", x.count(4), 2);
    }

    private static void lookCalls() {
        ChanceCourt x = Build.states(6);
        Build.act(x, 1, 0, 33, 5, 2, 4, 3, 3, 4, 2, 1);
        Build.act(x, 1, 3, 1000, 1, 12);
        Build.act(x, 2, 2, 0);
        int[] first = {0, 33, 4, 5, 4, 3, 2, 2, 3, 4, 1};
        int[] second = {3, 1000, 1, 1, -2, -2, -2, 12, -2, -2, -2};
        int[] third = {2, 0, 0, -2, -2, -2, -2, -2, -2, -2, -2};
        for (int what = 0; what <= 10; what++) {
            Due.is("look(1, 0, " + what + ")", x.look(1, 0, what), first[what]);
            Due.is("look(1, 1, " + what + ")", x.look(1, 1, what), second[what]);
            Due.is("look(2, 0, " + what + ")", x.look(2, 0, what), third[what]);
        }
        Due.is("look", x.look(1, 0, 11), -1);
        Due.is("look", x.look(1, 0, -1), -1);
        Due.is("look", x.look(1, 2, 0), -1);
        Due.is("look", x.look(1, -1, 0), -1);
        Due.is("look", x.look(6, 0, 0), -1);
        Due.is("look", x.look(-1, 0, 0), -1);
        Due.is("look", x.look(0, 0, 0), -1);
    }
}
