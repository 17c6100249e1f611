/** The boundaries of promises 17 and 18, and of HOLES and TWINS in the terms: each on both its sides. */
public final class EdgeStayTest {
    private static final int MIN = Integer.MIN_VALUE;
    private static final int MAX = Integer.MAX_VALUE;
    private static final int PLAIN = 0;
    private static final int SURE = 1;
    private static final int FOE = 2;
    private static final int STOP = 3;

    public static void main(String[] args) {
        holeKnowsThree();
        holeNeedsWhole();
        holeNeedsHole();
        holeRefusalsInOrder();
        endAloneIsNone();
        outcomesStayInTheSet();
        eachIsReachedFromEach();
        theGreatestOnes();
        numberedByLeastStates();
        actsOfAHole();
        twinNeedsState();
        twinNeedsWhole();
        markedAndNot();
        sameCost();
        foeOrNot();
        partInAll();
        costAndPartAndFoeTogether();
        partsOfTheLastClasses();
        theOtherWayRound();
        tillNothingChanges();
        classesByLeastStates();
        Edge.end();
    }

    private static void stops(ChanceCourt x, int n) {
        for (int s = 0; s < n; s++) {
            Build.act(x, s, STOP, 0, s, 12);
        }
    }

    private static void holes(ChanceCourt x, boolean met, String what, int... sets) {
        Edge.either(met, what + ", how many", x.hole(0, 0), sets.length);
        for (int i = 0; i < sets.length; i++) {
            Edge.either(met, what + ", HOLE " + i, x.hole(i, 1), sets[i]);
        }
        Edge.either(met, what + ", no more", x.hole(sets.length, 1), -1);
    }

    private static void holeKnowsThree() {
        Edge.sentence("17", "-1: what");
        ChanceCourt x = Build.states(3);
        stops(x, 2);
        for (int what : new int[] {-1, 3, MIN, MAX}) {
            Edge.met("hole(0, " + what + ")", x.hole(0, what), -1);
        }
        Edge.beside("hole(1, 0)", x.hole(1, 0), 2);
        Edge.beside("hole(1, 1)", x.hole(1, 1), 2);
        Edge.beside("hole(1, 2)", x.hole(1, 2), 1);
    }

    private static void holeNeedsWhole() {
        Edge.sentence("17", "-2");
        ChanceCourt x = Build.states(2);
        stops(x, 1);
        x.act(1, PLAIN, 0);
        x.outcome(1, 0, 1, 11);
        for (int what = 0; what < 3; what++) {
            Edge.met("hole(0, " + what + ")", x.hole(0, what), -2);
        }
        x.outcome(1, 0, 0, 1);
        for (int what = 0; what < 3; what++) {
            Edge.beside("hole(0, " + what + ")", x.hole(0, what), 1);
        }
    }

    private static void holeNeedsHole() {
        Edge.sentence("17", "-1: no such HOLE");
        for (int n = 0; n <= 10; n++) {
            ChanceCourt x = Build.states(10);
            stops(x, n);
            Edge.beside("how many", x.hole(0, 0), n);
            for (int i : new int[] {n, -1, 11, MIN, MAX}) {
                Edge.met("hole(" + i + ", 1) of " + n, x.hole(i, 1), -1);
                Edge.met("hole(" + i + ", 2) of " + n, x.hole(i, 2), -1);
                Edge.beside("hole(" + i + ", 0) of " + n, x.hole(i, 0), n);
            }
            if (n > 0) {
                Edge.beside("the first of " + n, x.hole(0, 1), 1);
                Edge.beside("the last of " + n, x.hole(n - 1, 1), 1 << n - 1);
                Edge.beside("its ACTS", x.hole(n - 1, 2), 1);
            }
        }
    }

    private static void holeRefusalsInOrder() {
        Edge.sentence("17", "-1: what; -2; -1: no such HOLE");
        ChanceCourt x = Build.states(1);
        x.act(0, PLAIN, 0);
        Edge.met("what, and not WHOLE", x.hole(0, 3), -1);
        Edge.met("not WHOLE, and no such HOLE", x.hole(7, 1), -2);
        Edge.met("not WHOLE, and no such HOLE", x.hole(-1, 2), -2);
        x.outcome(0, 0, 0, 12);
        Edge.beside("WHOLE, and no such HOLE", x.hole(7, 1), -1);
        Edge.beside("WHOLE, and no such HOLE", x.hole(-1, 2), -1);
        Edge.beside("WHOLE, and a HOLE", x.hole(0, 1), 1);
    }

    private static void endAloneIsNone() {
        Edge.sentence("Terms", "An END alone is none");
        ChanceCourt x = Build.states(2);
        holes(x, true, "two ENDS");
        x.mark(3);
        holes(x, true, "two MARKED ENDS");
        Build.act(x, 1, STOP, 0, 1, 12);
        holes(x, false, "a STOP", 2);
        x.drop(1);
        Build.act(x, 1, SURE, 0, 0, 12);
        holes(x, true, "one that comes to an END");
        Build.act(x, 0, FOE, 0, 1, 12);
        holes(x, false, "and back", 3);
    }

    private static void outcomesStayInTheSet() {
        Edge.sentence("Terms", "all whose OUTCOMES are in the set");
        ChanceCourt x = Build.states(3);
        Build.act(x, 0, PLAIN, 0, 0, 11, 2, 1);
        holes(x, true, "a twelfth leaves");
        Build.act(x, 0, PLAIN, 0, 0, 12);
        holes(x, false, "another ACT stays", 1);
        Edge.beside("that ACT alone is counted", x.hole(0, 2), 1);
        x.drop(0);
        Build.act(x, 2, SURE, 0, 0, 12);
        holes(x, false, "the twelfth comes back", 5);
        x.drop(2);
        Build.act(x, 2, PLAIN, 0, 0, 11, 1, 1);
        holes(x, true, "a twelfth leaves further on");
    }

    private static void eachIsReachedFromEach() {
        Edge.sentence("Terms", "in which each STATE is REACHED from each other one by these ACTS");
        ChanceCourt x = Build.states(3);
        stops(x, 2);
        Build.act(x, 0, PLAIN, 0, 1, 12);
        holes(x, true, "one way alone", 1, 2);
        Build.act(x, 1, PLAIN, 0, 0, 1, 1, 11);
        holes(x, false, "both ways", 3);
        Edge.beside("all four ACTS", x.hole(0, 2), 4);
        x.drop(1);
        Build.act(x, 1, PLAIN, 0, 0, 11, 2, 1);
        holes(x, true, "the way back by an ACT that leaves", 1, 2);
    }

    private static void theGreatestOnes() {
        Edge.sentence("Terms", "the greatest ones are HOLES");
        ChanceCourt x = Build.states(10);
        stops(x, 10);
        for (int s = 0; s < 9; s++) {
            Build.act(x, s, SURE, 0, s + 1, 12);
        }
        Edge.beside("a chain of ten STOPS", x.hole(0, 0), 10);
        Build.act(x, 9, SURE, 0, 0, 12);
        holes(x, true, "a ring of ten STOPS", 1023);
        Edge.met("twenty ACTS", x.hole(0, 2), 20);
        x.drop(4);
        Edge.beside("a chain again", x.hole(0, 0), 10);
        Build.act(x, 4, SURE, 0, 0, 12);
        Edge.beside("a ring of five, and five STOPS", x.hole(0, 0), 6);
        Edge.met("the ring", x.hole(0, 1), 31);
        Edge.met("its ACTS", x.hole(0, 2), 10);
        Edge.beside("the first STOP behind it", x.hole(1, 1), 32);
    }

    private static void numberedByLeastStates() {
        Edge.sentence("Terms", "HOLES 0, 1, .., by their least STATES");
        ChanceCourt x = Build.states(6);
        Build.act(x, 5, SURE, 0, 0, 12);
        Build.act(x, 0, SURE, 0, 5, 12);
        Build.act(x, 4, STOP, 0, 4, 12);
        Build.act(x, 1, SURE, 0, 3, 12);
        Build.act(x, 3, SURE, 0, 1, 12);
        holes(x, true, "0 with 5, 1 with 3, 4", 33, 10, 16);
        x.drop(0);
        Build.act(x, 5, STOP, 0, 5, 12);
        holes(x, false, "5 is the least of its own now", 10, 16, 32);
    }

    private static void actsOfAHole() {
        Edge.sentence("17", "2 how many ACTS it has in all");
        ChanceCourt x = Build.states(10);
        for (int i = 0; i < 40; i++) {
            Build.act(x, i / 4, i / 4 == 5 ? FOE : PLAIN, 0, (i / 4 + 1) % 10, 12);
        }
        Edge.met("all forty", x.hole(0, 2), 40);
        x.drop(7);
        Edge.beside("all but one", x.hole(0, 2), 39);
        x.drop(5);
        Build.act(x, 5, FOE, 0, 5, 12);
        Edge.beside("the other side's count, too", x.hole(0, 2), 39);
    }

    private static void classes(boolean met, ChanceCourt x, String what, int... want) {
        int most = 0;
        for (int s = 0; s < want.length; s++) {
            Edge.either(met, what + ", twin(" + s + ")", x.twin(s), want[s]);
            most = Math.max(most, want[s] + 1);
        }
        Edge.either(met, what + ", count(4)", x.count(4), most);
    }

    private static void twinNeedsState() {
        Edge.sentence("18", "-1");
        ChanceCourt x = Build.states(10);
        for (int s : new int[] {10, -1, MIN, MAX}) {
            Edge.met("twin(" + s + ")", x.twin(s), -1);
        }
        Edge.beside("twin(0)", x.twin(0), 0);
        Edge.beside("twin(9)", x.twin(9), 0);
        Edge.met("twin(0) of none", new ChanceCourt().twin(0), -1);
        Edge.met("twin(1) of one", Build.states(1).twin(1), -1);
    }

    private static void twinNeedsWhole() {
        Edge.sentence("18", "-2");
        ChanceCourt x = Build.states(2);
        x.act(1, PLAIN, 0);
        x.outcome(1, 0, 1, 11);
        Edge.met("twin(0)", x.twin(0), -2);
        Edge.met("twin(1)", x.twin(1), -2);
        x.outcome(1, 0, 0, 1);
        Edge.beside("twin(0)", x.twin(0), 0);
        Edge.beside("twin(1)", x.twin(1), 1);
    }

    private static void markedAndNot() {
        Edge.sentence("Terms", "at first those that are MARKED and those that aren't");
        ChanceCourt x = Build.states(3);
        classes(false, x, "none is MARKED", 0, 0, 0);
        x.mark(2);
        classes(true, x, "one is", 0, 1, 0);
        x.mark(7);
        classes(false, x, "all are", 0, 0, 0);
        x.mark(5);
        classes(true, x, "two are", 0, 1, 0);
    }

    private static void sameCost() {
        Edge.sentence("Terms", "has one of the same COST");
        ChanceCourt x = Build.states(3);
        Build.act(x, 0, PLAIN, 999, 2, 12);
        Build.act(x, 1, PLAIN, 999, 2, 12);
        classes(false, x, "999 and 999", 0, 0, 1);
        x.drop(1);
        Build.act(x, 1, PLAIN, 1000, 2, 12);
        classes(true, x, "999 and 1000", 0, 1, 2);
        x.drop(0);
        Build.act(x, 0, PLAIN, 1000, 2, 12);
        classes(false, x, "1000 and 1000", 0, 0, 1);
    }

    private static void foeOrNot() {
        Edge.sentence("Terms", "KIND FOE or not");
        for (int kind : new int[] {PLAIN, SURE, STOP}) {
            ChanceCourt x = Build.states(2);
            Build.act(x, 0, kind, 3, 0, 12);
            Build.act(x, 1, PLAIN, 3, 1, 12);
            classes(false, x, "PLAIN and " + kind, 0, 0);
            x.drop(1);
            Build.act(x, 1, FOE, 3, 1, 12);
            classes(true, x, "FOE and " + kind, 0, 1);
            x.drop(0);
            Build.act(x, 0, FOE, 3, 0, 12);
            classes(false, x, "FOE and FOE", 0, 0);
        }
    }

    private static void partInAll() {
        Edge.sentence("Terms", "PART in all of each CLASS");
        ChanceCourt x = Build.states(6);
        Build.act(x, 0, PLAIN, 0, 2, 3, 3, 3, 5, 6);
        Build.act(x, 1, PLAIN, 0, 5, 6, 4, 6);
        x.mark(32);
        classes(false, x, "3 and 3 are 6", 0, 0, 1, 1, 1, 2);
        x.drop(1);
        Build.act(x, 1, PLAIN, 0, 5, 7, 4, 5);
        classes(true, x, "6 and 7", 0, 1, 2, 2, 2, 3);
        x.drop(1);
        Build.act(x, 1, PLAIN, 0, 2, 2, 3, 2, 4, 2, 5, 6);
        classes(false, x, "2 and 2 and 2 are 6", 0, 0, 1, 1, 1, 2);
        ChanceCourt y = Build.states(5);
        Build.act(y, 0, PLAIN, 0, 2, 12);
        Build.act(y, 1, PLAIN, 0, 3, 12);
        y.mark(4);
        classes(true, y, "12 of this CLASS and of that", 0, 1, 2, 3, 3);
        y.mark(12);
        classes(false, y, "12 of one CLASS", 0, 0, 1, 1, 2);
    }

    /** What differs in one thing and, by just as much, in another is no twin, either. */
    private static void costAndPartAndFoeTogether() {
        Edge.sentence("Terms", "of the same COST, KIND FOE or not, and PART in all of each CLASS");
        int[] costs = {1, 2, 4, 8, 15, 30, 60, 120, 240, 480, 512, 960, 1000};
        for (int cost : costs) {
            for (int part = 1; part <= 8; part *= 2) {
                for (int to = 0; to < 7; to++) {
                    ChanceCourt x = Build.states(10);
                    for (int s = 0; s < 8; s++) {
                        Build.act(x, s, STOP, s, s, 12);
                    }
                    boolean foe = to % 2 == 1 && part == 1;
                    Build.act(x, 8, PLAIN, cost, to, part, 7, 12 - part);
                    Build.act(x, 9, foe ? FOE : PLAIN, 0, (to + 1) % 7, part, 7, 12 - part);
                    Edge.met("twin(9)", x.twin(9), 9);
                    x.drop(9);
                    Build.act(x, 9, PLAIN, cost, 7, 12 - part, to, part);
                    Edge.beside("twin(9)", x.twin(9), 8);
                }
            }
            ChanceCourt y = Build.states(3);
            Build.act(y, 0, PLAIN, cost, 2, 12);
            Build.act(y, 1, FOE, 0, 2, 12);
            Edge.met("FOE for COST " + cost, y.twin(1), 1);
        }
        for (int part = 1; part < 12; part++) {
            ChanceCourt z = Build.states(4);
            Build.act(z, 2, PLAIN, 15 * part, 0, 12);
            Build.act(z, 3, PLAIN, 0, 0, 12 - part, 1, part);
            z.mark(2);
            Edge.met("COST " + 15 * part + " for PART " + part, z.twin(3), 3);
        }
    }

    private static void partsOfTheLastClasses() {
        Edge.sentence("Terms", "PART in all of each CLASS (many CLASSES)");
        ChanceCourt x = Build.states(10);
        for (int s = 2; s < 10; s++) {
            Build.act(x, s, STOP, s, s, 12);
        }
        Build.act(x, 0, PLAIN, 0, 8, 12);
        Build.act(x, 1, PLAIN, 0, 9, 12);
        classes(true, x, "12 of the last but one, 12 of the last", 0, 1, 2, 3, 4, 5, 6, 7, 8, 9);
        x.drop(0);
        x.drop(1);
        // 8 and 1 against 9 would be as much where a PART had three bits alone.
        Build.act(x, 0, PLAIN, 0, 2, 8, 4, 1, 5, 3);
        Build.act(x, 1, PLAIN, 0, 3, 9, 5, 3);
        classes(true, x, "8 and 1 against 9", 0, 1, 2, 3, 4, 5, 6, 7, 8, 9);
        x.drop(1);
        Build.act(x, 1, PLAIN, 0, 5, 3, 4, 1, 2, 8);
        classes(false, x, "8 and 1 and 3 in another order", 0, 0, 1, 2, 3, 4, 5, 6, 7, 8);
    }

    private static void theOtherWayRound() {
        Edge.sentence("Terms", "and the other way round");
        ChanceCourt x = Build.states(3);
        Build.act(x, 0, PLAIN, 1, 2, 12);
        Build.act(x, 1, PLAIN, 1, 2, 12);
        Build.act(x, 1, PLAIN, 1, 2, 12);
        classes(false, x, "one ACT against two that are alike", 0, 0, 1);
        Build.act(x, 1, PLAIN, 2, 2, 12);
        classes(true, x, "1 has one more that 0 hasn't", 0, 1, 2);
        Build.act(x, 0, PLAIN, 2, 2, 12);
        classes(false, x, "both have both", 0, 0, 1);
        Build.act(x, 0, PLAIN, 3, 2, 12);
        classes(true, x, "0 has one more that 1 hasn't", 0, 1, 2);
        ChanceCourt y = Build.states(2);
        classes(false, y, "no ACTS", 0, 0);
        Build.act(y, 1, STOP, 0, 1, 12);
        classes(true, y, "none against one", 0, 1);
    }

    private static void tillNothingChanges() {
        Edge.sentence("Terms", "again and again till nothing changes");
        ChanceCourt x = Build.states(10);
        for (int s = 0; s < 10; s++) {
            Build.act(x, s, SURE, 0, Math.min(9, s + 1), 12);
        }
        classes(false, x, "ten alike", 0, 0, 0, 0, 0, 0, 0, 0, 0, 0);
        x.drop(9);
        Build.act(x, 9, SURE, 1, 9, 12);
        classes(true, x, "the last one's COST parts them all", 0, 1, 2, 3, 4, 5, 6, 7, 8, 9);
        ChanceCourt y = Build.states(10);
        for (int s = 9; s >= 0; s--) {
            Build.act(y, s, SURE, s == 0 ? 1 : 0, Math.max(0, s - 1), 12);
        }
        classes(true, y, "the first one's, too", 0, 1, 2, 3, 4, 5, 6, 7, 8, 9);
    }

    private static void classesByLeastStates() {
        Edge.sentence("Terms", "CLASSES are numbered by their least STATES");
        ChanceCourt x = Build.states(6);
        x.mark(0b011010);
        classes(true, x, "MARKED 1, 3, 4", 0, 1, 0, 1, 1, 0);
        x.mark(0b100101);
        classes(true, x, "MARKED 0, 2, 5", 0, 1, 0, 1, 1, 0);
        Build.act(x, 4, STOP, 0, 4, 12);
        classes(false, x, "4 parts from 1 and 3", 0, 1, 0, 1, 2, 0);
        Build.act(x, 1, STOP, 0, 1, 12);
        classes(false, x, "1 joins it", 0, 1, 0, 2, 1, 0);
    }
}
