/** The boundaries of promises 1 to 7, 15, 19 and 20: each sentence on both its sides. */
public final class EdgeBuildingTest {
    private static final int MIN = Integer.MIN_VALUE;
    private static final int MAX = Integer.MAX_VALUE;
    private static final int PLAIN = 0;
    private static final int SURE = 1;
    private static final int FOE = 2;
    private static final int STOP = 3;

    public static void main(String[] args) {
        newHasNoStates();
        newHasNoMarks();
        tenStates();
        actNeedsState();
        actNeedsKind();
        actNeedsCost();
        fourActs();
        actsOfOneSide();
        outcomeNeedsAct();
        outcomeNeedsStates();
        outcomeNeedsPart();
        stopStaysAtHome();
        fourOutcomes();
        oneOutcome();
        twelveInAll();
        outcomeTwice();
        dropTakesTheLast();
        dropNeedsState();
        dropNeedsAct();
        markTakesTenBits();
        markNeedsStates();
        markCounts();
        wholeCounts();
        reachedWholeOrNot();
        reachedNeedsState();
        countKnowsFive();
        foeActsAreCounted();
        classesNeedWhole();
        lookKnowsEleven();
        lookNeedsAct();
        lookWithoutOutcome();
        Edge.end();
    }

    private static void newHasNoStates() {
        Edge.sentence("1", "No STATES");
        ChanceCourt x = new ChanceCourt();
        Edge.met("count(0)", x.count(0), 0);
        Edge.met("reached(0)", x.reached(0), -1);
        Edge.met("act(0, 0, 0)", x.act(0, PLAIN, 0), -1);
        Edge.met("drop(0)", x.drop(0), -1);
        Edge.met("value(0, false, 0)", x.value(0, false, 0), -1);
        Edge.met("whole()", x.whole(), 0);
        Edge.met("hole(0, 0)", x.hole(0, 0), 0);
        Edge.met("count(4)", x.count(4), 0);
        x.state();
        Edge.beside("count(0)", x.count(0), 1);
        Edge.beside("reached(0)", x.reached(0), 1);
        Edge.beside("count(4)", x.count(4), 1);
        Edge.beside("a second object has none", new ChanceCourt().count(0), 0);
    }

    private static void newHasNoMarks() {
        Edge.sentence("1", "none is MARKED");
        ChanceCourt x = Build.states(10);
        Edge.met("sets(0)", x.sets(0), 0);
        Edge.met("within(9, 0, false, 0)", x.within(9, 0, false, 0), 0);
        x.mark(512);
        Edge.beside("sets(0)", x.sets(0), 512);
        Edge.beside("within(9, 0, false, 0)", x.within(9, 0, false, 0), 1);
        ChanceCourt y = Build.states(1);
        y.mark(1);
        y.state();
        Edge.beside("a STATE that comes later isn't, either", y.sets(0), 1);
    }

    private static void tenStates() {
        Edge.sentence("2", "-2: there are 10");
        ChanceCourt x = Build.states(9);
        Edge.beside("the tenth", x.state(), 9);
        Edge.met("the eleventh", x.state(), -2);
        Edge.met("once more", x.state(), -2);
        Edge.met("count(0)", x.count(0), 10);
        Edge.met("reached(10)", x.reached(10), -1);
    }

    private static void actNeedsState() {
        Edge.sentence("3", "-1 (the STATE)");
        ChanceCourt x = Build.states(3);
        for (int s : new int[] {3, -1, 4, 10, MIN, MAX}) {
            Edge.met("act(" + s + ", 0, 0)", x.act(s, PLAIN, 0), -1);
        }
        Edge.met("count(1)", x.count(1), 0);
        Edge.beside("act(0, 0, 0)", x.act(0, PLAIN, 0), 0);
        Edge.beside("act(2, 0, 0)", x.act(2, PLAIN, 0), 0);
        x.state();
        Edge.beside("act(3, 0, 0), once it is there", x.act(3, PLAIN, 0), 0);
    }

    private static void actNeedsKind() {
        Edge.sentence("3", "-1 (the KIND)");
        ChanceCourt x = Build.states(4);
        for (int kind : new int[] {-1, 4, MIN, MAX}) {
            Edge.met("act(0, " + kind + ", 0)", x.act(0, kind, 0), -1);
        }
        for (int kind = 0; kind <= 3; kind++) {
            Edge.beside("act(" + kind + ", " + kind + ", 0)", x.act(kind, kind, 0), 0);
            Edge.beside("look(" + kind + ", 0, 0)", x.look(kind, 0, 0), kind);
        }
    }

    private static void actNeedsCost() {
        Edge.sentence("3", "a COST (0 .. 1000)");
        ChanceCourt x = Build.states(1);
        for (int cost : new int[] {-1, 1001, MIN, MAX}) {
            Edge.met("act(0, 0, " + cost + ")", x.act(0, PLAIN, cost), -1);
        }
        Edge.beside("act(0, 0, 0)", x.act(0, PLAIN, 0), 0);
        Edge.beside("act(0, 0, 1000)", x.act(0, PLAIN, 1000), 1);
        Edge.beside("look(0, 0, 1)", x.look(0, 0, 1), 0);
        Edge.beside("look(0, 1, 1)", x.look(0, 1, 1), 1000);
    }

    private static void fourActs() {
        Edge.sentence("3", "-2: it has 4");
        ChanceCourt x = Build.states(2);
        for (int a = 0; a < 4; a++) {
            Edge.beside("act " + a, x.act(0, PLAIN, a), a);
        }
        Edge.met("the fifth", x.act(0, PLAIN, 4), -2);
        Edge.met("the fifth, a SURE one", x.act(0, SURE, 4), -2);
        Edge.met("count(1)", x.count(1), 4);
        Edge.beside("another STATE's first", x.act(1, PLAIN, 0), 0);
        x.drop(0);
        Edge.beside("the fourth again", x.act(0, PLAIN, 9), 3);
        Edge.met("the fifth again", x.act(0, PLAIN, 9), -2);
        ChanceCourt y = Build.states(1);
        for (int a = 0; a < 4; a++) {
            Edge.beside("FOE ACT " + a, y.act(0, FOE, a), a);
        }
        Edge.met("the fifth of the FOE's", y.act(0, FOE, 4), -2);
    }

    private static void actsOfOneSide() {
        Edge.sentence("3", "-3: it has ACTS of the other side");
        for (int kind : new int[] {PLAIN, SURE, STOP}) {
            ChanceCourt x = Build.states(2);
            Edge.beside("kind " + kind, x.act(0, kind, 0), 0);
            Edge.met("FOE beside kind " + kind, x.act(0, FOE, 0), -3);
            Edge.beside("FOE at another STATE", x.act(1, FOE, 0), 0);
            Edge.met("kind " + kind + " beside FOE", x.act(1, kind, 0), -3);
            Edge.beside("FOE beside FOE", x.act(1, FOE, 0), 1);
            x.drop(1);
            Edge.met("one FOE ACT is left", x.act(1, kind, 0), -3);
            x.drop(1);
            Edge.beside("no FOE ACT is left", x.act(1, kind, 0), 0);
            Edge.beside("PLAIN beside kind " + kind, x.act(0, PLAIN, 0), 1);
            Edge.beside("SURE beside them", x.act(0, SURE, 0), 2);
            Edge.beside("STOP beside them", x.act(0, STOP, 0), 3);
        }
    }

    private static void outcomeNeedsAct() {
        Edge.sentence("4", "-1 (the ACT)");
        ChanceCourt x = Build.states(2);
        Edge.met("a STATE without ACTS", x.outcome(0, 0, 0, 1), -1);
        x.act(0, PLAIN, 0);
        x.act(0, PLAIN, 0);
        for (int a : new int[] {2, -1, 3, 4, MIN, MAX}) {
            Edge.met("outcome(0, " + a + ", 0, 1)", x.outcome(0, a, 0, 1), -1);
        }
        Edge.met("another STATE's", x.outcome(1, 0, 0, 1), -1);
        Edge.met("count(2)", x.count(2), 0);
        Edge.beside("the first", x.outcome(0, 0, 0, 1), 1);
        Edge.beside("the last", x.outcome(0, 1, 0, 2), 2);
        x.drop(0);
        Edge.met("one that went", x.outcome(0, 1, 1, 1), -1);
    }

    private static void outcomeNeedsStates() {
        Edge.sentence("4", "-1 (the STATES)");
        ChanceCourt x = Build.states(2);
        x.act(0, PLAIN, 0);
        x.act(1, PLAIN, 0);
        for (int s : new int[] {2, -1, 10, MIN, MAX}) {
            Edge.met("outcome(" + s + ", 0, 0, 1)", x.outcome(s, 0, 0, 1), -1);
            Edge.met("outcome(0, 0, " + s + ", 1)", x.outcome(0, 0, s, 1), -1);
        }
        Edge.beside("outcome(0, 0, 0, 1)", x.outcome(0, 0, 0, 1), 1);
        Edge.beside("outcome(0, 0, 1, 1)", x.outcome(0, 0, 1, 1), 2);
        Edge.beside("outcome(1, 0, 1, 1)", x.outcome(1, 0, 1, 1), 1);
        x.state();
        Edge.beside("outcome(0, 0, 2, 1), once it is there", x.outcome(0, 0, 2, 1), 3);
    }

    private static void outcomeNeedsPart() {
        Edge.sentence("4", "a PART of twelve (1 .. 12)");
        ChanceCourt x = Build.states(2);
        x.act(0, PLAIN, 0);
        x.act(1, PLAIN, 0);
        for (int part : new int[] {0, 13, -1, MIN, MAX}) {
            Edge.met("outcome(0, 0, 0, " + part + ")", x.outcome(0, 0, 0, part), -1);
        }
        Edge.beside("outcome(0, 0, 0, 1)", x.outcome(0, 0, 0, 1), 1);
        Edge.beside("outcome(1, 0, 0, 12)", x.outcome(1, 0, 0, 12), 12);
    }

    private static void stopStaysAtHome() {
        Edge.sentence("4", "-1 (of a STOP: another STATE than its own)");
        ChanceCourt x = Build.states(3);
        x.act(1, STOP, 0);
        Edge.met("the STATE below", x.outcome(1, 0, 0, 12), -1);
        Edge.met("the STATE above", x.outcome(1, 0, 2, 12), -1);
        Edge.met("look(1, 0, 2)", x.look(1, 0, 2), 0);
        Edge.beside("its own", x.outcome(1, 0, 1, 12), 12);
        x.act(0, SURE, 0);
        Edge.beside("another of a SURE one", x.outcome(0, 0, 1, 12), 12);
        x.act(2, SURE, 0);
        Edge.beside("its own of a SURE one", x.outcome(2, 0, 2, 12), 12);
    }

    private static void fourOutcomes() {
        Edge.sentence("4", "-2: it has 4");
        for (int kind : new int[] {PLAIN, FOE}) {
            ChanceCourt x = Build.states(6);
            x.act(0, kind, 0);
            for (int to = 0; to < 4; to++) {
                Edge.beside("outcome " + to + " of kind " + kind, x.outcome(0, 0, to, 1), to + 1);
            }
            Edge.met("the fifth", x.outcome(0, 0, 4, 1), -2);
            Edge.met("the fifth, of all that is lacking", x.outcome(0, 0, 5, 8), -2);
            Edge.met("whole()", x.whole(), 8);
            x.act(0, kind, 0);
            Edge.beside("another ACT's first", x.outcome(0, 1, 4, 1), 1);
        }
    }

    private static void oneOutcome() {
        Edge.sentence("4", "-2: of SURE, STOP: one");
        for (int kind : new int[] {SURE, STOP}) {
            ChanceCourt x = Build.states(2);
            x.act(0, kind, 0);
            Edge.beside("the first of kind " + kind, x.outcome(0, 0, 0, 11), 11);
            Edge.met("the second of kind " + kind, x.outcome(0, 0, 0, 1), -2);
            Edge.met("whole()", x.whole(), 1);
        }
        ChanceCourt y = Build.states(2);
        y.act(0, SURE, 0);
        y.outcome(0, 0, 0, 11);
        Edge.met("the second of a SURE one, another STATE", y.outcome(0, 0, 1, 1), -2);
        y.act(0, PLAIN, 0);
        y.outcome(0, 1, 0, 11);
        Edge.beside("the second of a PLAIN one", y.outcome(0, 1, 1, 1), 12);
        y.act(1, FOE, 0);
        y.outcome(1, 0, 0, 11);
        Edge.beside("the second of a FOE one", y.outcome(1, 0, 1, 1), 12);
    }

    private static void twelveInAll() {
        Edge.sentence("4", "-3: it would have more than twelve");
        ChanceCourt x = Build.states(3);
        x.act(0, PLAIN, 0);
        x.outcome(0, 0, 0, 7);
        Edge.met("7 and 6", x.outcome(0, 0, 1, 6), -3);
        Edge.met("7 and 12", x.outcome(0, 0, 1, 12), -3);
        Edge.beside("7 and 5", x.outcome(0, 0, 1, 5), 12);
        Edge.met("12 and 1", x.outcome(0, 0, 2, 1), -3);
        x.act(1, FOE, 0);
        x.outcome(1, 0, 0, 1);
        Edge.met("1 and 12", x.outcome(1, 0, 1, 12), -3);
        Edge.beside("1 and 11", x.outcome(1, 0, 1, 11), 12);
    }

    private static void outcomeTwice() {
        Edge.sentence("4", "-3: or has that OUTCOME");
        ChanceCourt x = Build.states(10);
        x.act(0, PLAIN, 0);
        Edge.beside("0", x.outcome(0, 0, 0, 1), 1);
        Edge.met("0 again", x.outcome(0, 0, 0, 1), -3);
        Edge.beside("9", x.outcome(0, 0, 9, 1), 2);
        Edge.met("9 again, another PART", x.outcome(0, 0, 9, 10), -3);
        Edge.met("0 again, behind 9", x.outcome(0, 0, 0, 2), -3);
        Edge.beside("8", x.outcome(0, 0, 8, 10), 12);
        x.act(0, PLAIN, 0);
        Edge.beside("0 of another ACT", x.outcome(0, 1, 0, 1), 1);
    }

    private static void dropTakesTheLast() {
        Edge.sentence("5", "The last ACT of a STATE goes: how many it has");
        ChanceCourt x = Build.states(2);
        for (int a = 0; a < 4; a++) {
            Build.act(x, 0, PLAIN, 10 + a, 1, 3 + a);
            Build.act(x, 1, PLAIN, 20 + a, 0, 3 + a);
        }
        for (int left = 3; left >= 0; left--) {
            Edge.met("drop(0)", x.drop(0), left);
            Edge.met("the last one is not there", x.look(0, left, 1), -1);
            if (left > 0) {
                Edge.beside("the one ahead of it is", x.look(0, left - 1, 1), 9 + left);
            }
            Edge.beside("the other STATE's is", x.look(1, left, 1), 20 + left);
        }
        Edge.beside("count(1)", x.count(1), 4);
        x.act(0, SURE, 5);
        Edge.beside("a new one has none of the old OUTCOMES", x.look(0, 0, 2), 0);
        Edge.beside("nor their twelfths", x.outcome(0, 0, 1, 12), 12);
    }

    private static void dropNeedsState() {
        Edge.sentence("5", "-1");
        ChanceCourt x = Build.states(2);
        x.act(0, PLAIN, 0);
        x.act(1, PLAIN, 0);
        for (int s : new int[] {2, -1, 10, MIN, MAX}) {
            Edge.met("drop(" + s + ")", x.drop(s), -1);
        }
        Edge.met("count(1)", x.count(1), 2);
        Edge.beside("drop(0)", x.drop(0), 0);
        Edge.beside("drop(1)", x.drop(1), 0);
    }

    private static void dropNeedsAct() {
        Edge.sentence("5", "-2: it has none");
        ChanceCourt x = Build.states(2);
        Edge.met("none came", x.drop(0), -2);
        x.act(0, PLAIN, 0);
        Edge.met("the other STATE has one", x.drop(1), -2);
        Edge.beside("one came", x.drop(0), 0);
        Edge.met("it went", x.drop(0), -2);
    }

    private static void markTakesTenBits() {
        Edge.sentence("6", "(10 bits) .. -1: other bits");
        ChanceCourt x = Build.states(10);
        Edge.beside("mark(1023)", x.mark(1023), 10);
        for (int bits : new int[] {1024, 2047, 1 << 30, MIN, MIN | 1, -1, MAX}) {
            Edge.met("mark(" + bits + ")", x.mark(bits), -1);
            Edge.met("all are MARKED still", x.sets(0), 1023);
        }
        Edge.beside("mark(512)", x.mark(512), 1);
        Edge.beside("mark(1)", x.mark(1), 1);
        Edge.beside("mark(0)", x.mark(0), 0);
    }

    private static void markNeedsStates() {
        Edge.sentence("6", "-1: STATES that aren't there");
        for (int n = 0; n < 10; n++) {
            ChanceCourt x = Build.states(n);
            int all = (1 << n) - 1;
            Edge.beside("mark(" + all + ") of " + n, x.mark(all), n);
            Edge.met("mark(" + (all + 1) + ") of " + n, x.mark(all + 1), -1);
            Edge.met("mark(" + (2 * all + 1) + ") of " + n, x.mark(2 * all + 1), -1);
            x.state();
            Edge.beside("mark(" + (all + 1) + ") of " + (n + 1), x.mark(all + 1), 1);
        }
    }

    private static void markCounts() {
        Edge.sentence("6", "MARKED are these STATES: how many there are of them");
        ChanceCourt x = Build.states(10);
        for (int s = 0; s < 10; s++) {
            Edge.met("mark of " + s, x.mark(1 << s), 1);
            Edge.met("these alone", x.sets(0), 1 << s);
            Edge.beside("mark of all others", x.mark(1023 & ~(1 << s)), 9);
            Edge.beside("these alone", x.sets(0), 1023 & ~(1 << s));
        }
    }

    private static void wholeCounts() {
        Edge.sentence("7", "lacking in all ACTS together: 0 WHOLE");
        ChanceCourt x = Build.states(10);
        Edge.met("no ACTS", x.whole(), 0);
        for (int i = 0; i < 40; i++) {
            x.act(i / 4, i / 4 == 3 ? FOE : PLAIN, 0);
        }
        Edge.beside("forty ACTS without OUTCOMES", x.whole(), 480);
        for (int i = 0; i < 39; i++) {
            x.outcome(i / 4, i % 4, 0, 12);
        }
        Edge.beside("one of them", x.whole(), 12);
        x.outcome(9, 3, 0, 11);
        Edge.beside("a twelfth of one", x.whole(), 1);
        Edge.beside("sets(1)", x.sets(1), -2);
        x.outcome(9, 3, 9, 1);
        Edge.met("none", x.whole(), 0);
        Edge.met("sets(1)", x.sets(1), 1023);
        x.act(9, PLAIN, 0);
        Edge.met("a refused ACT lacks nothing", x.whole(), 0);
    }

    private static void reachedWholeOrNot() {
        Edge.sentence("15", "(WHOLE or not.)");
        ChanceCourt x = Build.states(3);
        Edge.beside("an END", x.reached(0), 1);
        x.act(0, PLAIN, 0);
        Edge.met("an ACT without OUTCOMES", x.reached(0), 1);
        x.outcome(0, 0, 1, 1);
        Edge.met("a twelfth", x.reached(0), 3);
        Edge.met("itself alone", x.reached(1), 2);
        x.act(1, FOE, 0);
        x.outcome(1, 0, 2, 1);
        Edge.met("by the other side, too", x.reached(0), 7);
        x.outcome(0, 0, 0, 11);
        x.outcome(1, 0, 1, 11);
        Edge.beside("WHOLE", x.reached(0), 7);
        Edge.beside("not back", x.reached(2), 4);
        x.mark(2);
        Edge.beside("through a MARKED one", x.reached(0), 7);
    }

    private static void reachedNeedsState() {
        Edge.sentence("15", "-1");
        ChanceCourt x = Build.states(10);
        for (int s : new int[] {10, -1, MIN, MAX}) {
            Edge.met("reached(" + s + ")", x.reached(s), -1);
        }
        Edge.beside("reached(0)", x.reached(0), 1);
        Edge.beside("reached(9)", x.reached(9), 512);
        Edge.met("reached(1) of one", Build.states(1).reached(1), -1);
    }

    private static void countKnowsFive() {
        Edge.sentence("19", "-1 for others");
        ChanceCourt x = Build.states(3);
        Build.act(x, 0, PLAIN, 0, 1, 6, 2, 6);
        Build.act(x, 0, STOP, 0, 0, 12);
        Build.act(x, 1, FOE, 0, 1, 12);
        for (int what : new int[] {-1, 5, MIN, MAX}) {
            Edge.met("count(" + what + ")", x.count(what), -1);
        }
        int[] want = {3, 3, 4, 1, 3};
        for (int what = 0; what <= 4; what++) {
            Edge.beside("count(" + what + ")", x.count(what), want[what]);
        }
    }

    private static void foeActsAreCounted() {
        Edge.sentence("19", "3 FOE ACTS");
        ChanceCourt x = Build.states(10);
        Edge.beside("none", x.count(3), 0);
        for (int i = 0; i < 40; i++) {
            x.act(i % 10, i % 10 == 4 ? STOP : FOE, 0);
        }
        Edge.met("all but those of STATE 4", x.count(3), 36);
        Edge.beside("all ACTS", x.count(1), 40);
        x.drop(0);
        Edge.met("one of STATE 0 went", x.count(3), 35);
        x.drop(4);
        Edge.beside("one of STATE 4 went", x.count(3), 35);
        x.drop(9);
        Edge.met("one of STATE 9 went", x.count(3), 34);
    }

    private static void classesNeedWhole() {
        Edge.sentence("19", "4 CLASSES (-2 if it isn't WHOLE)");
        ChanceCourt x = Build.states(2);
        x.act(0, PLAIN, 0);
        x.outcome(0, 0, 0, 11);
        Edge.met("count(4), eleven twelfths", x.count(4), -2);
        Edge.met("count(5), eleven twelfths", x.count(5), -1);
        int[] want = {2, 1, 1, 0};
        for (int what = 0; what < 4; what++) {
            Edge.beside("count(" + what + "), eleven twelfths", x.count(what), want[what]);
        }
        x.outcome(0, 0, 1, 1);
        Edge.beside("count(4), twelve twelfths", x.count(4), 2);
    }

    private static void lookKnowsEleven() {
        Edge.sentence("20", "-1 (what)");
        ChanceCourt x = Build.states(5);
        Build.act(x, 0, PLAIN, 77, 4, 1, 3, 2, 2, 3, 1, 6);
        for (int what : new int[] {-1, 11, MIN, MAX}) {
            Edge.met("look(0, 0, " + what + ")", x.look(0, 0, what), -1);
        }
        int[] want = {0, 77, 4, 4, 3, 2, 1, 1, 2, 3, 6};
        for (int what = 0; what <= 10; what++) {
            Edge.beside("look(0, 0, " + what + ")", x.look(0, 0, what), want[what]);
        }
    }

    private static void lookNeedsAct() {
        Edge.sentence("20", "-1 (the ACT)");
        ChanceCourt x = Build.states(2);
        for (int a = 0; a < 4; a++) {
            x.act(1, PLAIN, 50 + a);
        }
        for (int a : new int[] {4, -1, MIN, MAX}) {
            Edge.met("look(1, " + a + ", 1)", x.look(1, a, 1), -1);
        }
        for (int s : new int[] {2, -1, 0, MIN, MAX}) {
            Edge.met("look(" + s + ", 0, 1)", x.look(s, 0, 1), -1);
        }
        Edge.beside("look(1, 0, 1)", x.look(1, 0, 1), 50);
        Edge.beside("look(1, 3, 1)", x.look(1, 3, 1), 53);
        x.drop(1);
        Edge.met("look(1, 3, 1), once it went", x.look(1, 3, 1), -1);
    }

    private static void lookWithoutOutcome() {
        Edge.sentence("20", "(-2: there is none)");
        ChanceCourt x = Build.states(4);
        x.act(0, PLAIN, 0);
        for (int had = 0; had <= 4; had++) {
            Edge.beside("how many", x.look(0, 0, 2), had);
            for (int o = 0; o < had; o++) {
                Edge.beside("STATE " + o + " of " + had, x.look(0, 0, 3 + o), 3 - o);
                Edge.beside("PART " + o + " of " + had, x.look(0, 0, 7 + o), o + 1);
            }
            for (int o = had; o < 4; o++) {
                Edge.met("STATE " + o + " of " + had, x.look(0, 0, 3 + o), -2);
                Edge.met("PART " + o + " of " + had, x.look(0, 0, 7 + o), -2);
            }
            if (had < 4) {
                x.outcome(0, 0, 3 - had, had + 1);
            }
        }
    }
}
