/** The sentences ahead of the promises: each on both its sides. (HOLES and TWINS: EdgeStayTest.) */
public final class EdgeTermsTest {
    private static final int PLAIN = 0;
    private static final int SURE = 1;
    private static final int FOE = 2;
    private static final int STOP = 3;

    public static void main(String[] args) {
        lastOfAllCalls();
        statesAsTheyCome();
        actsAsTheyCome();
        endHasNoActs();
        rightIsTwelve();
        wholeIsAllRight();
        lowestTerms();
        zeroByOne();
        markedByBits();
        markedHasChanceOne();
        endHasChanceZero();
        leastSolution();
        oneChoiceForAll();
        foeInMost();
        foeInLeast();
        justMost();
        outcomeNearer();
        firstOfThese();
        distanceOfMarked();
        distanceOfOthers();
        distanceOfFoe();
        choiceOfFoe();
        choiceOfLost();
        choiceOfMarked();
        reachedItself();
        sureIsOne();
        lostIsZero();
        costIsPaidEachTime();
        costTillMarked();
        costUnderChanceOne();
        costIsTheLeast();
        Edge.end();
    }

    private static void valueIs(boolean met, ChanceCourt x, int s, boolean least, long upper, long lower) {
        Edge.either(met, "value(" + s + ", " + least + ", 0)", x.value(s, least, 0), upper);
        Edge.either(met, "value(" + s + ", " + least + ", 1)", x.value(s, least, 1), lower);
    }

    private static void lastOfAllCalls() {
        Edge.sentence("What it is", "at most 512 calls after it has been made");
        ChanceCourt x = Build.states(3);
        Build.act(x, 0, PLAIN, 1, 0, 6, 1, 4, 2, 2);
        Due.is("mark(2)", x.mark(2), 1);
        int calls = 8;
        while (calls < 508) {
            x.mark(calls % 4 == 0 ? 4 : 2);
            x.value(0, false, 0);
            calls += 2;
        }
        Edge.beside("call 509", x.mark(2), 1);
        Edge.beside("call 510", x.value(0, false, 0), 2);
        Edge.beside("call 511", x.value(0, true, 1), 3);
        Edge.met("call 512", x.state(), 3);
        ChanceCourt y = Build.states(1);
        for (int call = 2; call <= 511; call++) {
            Due.is("call " + call, call % 2 == 0 ? y.act(0, FOE, 1000) : y.drop(0), 0);
        }
        Edge.met("call 512", y.act(0, FOE, 1000), 0);
    }

    private static void statesAsTheyCome() {
        Edge.sentence("Terms", "STATES 0 .. 9, as they come");
        ChanceCourt x = new ChanceCourt();
        for (int s = 0; s < 10; s++) {
            Edge.met("not there yet", x.reached(s), -1);
            Edge.beside("state()", x.state(), s);
            Edge.beside("there", x.reached(s), 1 << s);
        }
        Edge.met("none behind 9", x.reached(10), -1);
    }

    private static void actsAsTheyCome() {
        Edge.sentence("Terms", "Each has ACTS (at most 4), as they come");
        ChanceCourt x = Build.states(10);
        for (int s = 9; s >= 0; s--) {
            for (int a = 0; a < 4; a++) {
                Edge.met("not there yet", x.look(s, a, 1), -1);
                Edge.beside("act", x.act(s, PLAIN, 100 * s + a), a);
            }
        }
        Edge.beside("forty", x.count(1), 40);
        for (int s = 0; s < 10; s++) {
            for (int a = 0; a < 4; a++) {
                Edge.beside("look(" + s + ", " + a + ", 1)", x.look(s, a, 1), 100 * s + a);
            }
            Edge.met("none behind 3", x.look(s, 4, 1), -1);
        }
    }

    private static void endHasNoActs() {
        Edge.sentence("Terms", "a STATE without ACTS is an END");
        ChanceCourt x = Build.states(2);
        x.mark(2);
        Edge.met("choice(0)", x.choice(0), -1);
        valueIs(true, x, 0, false, 0, 1);
        Edge.met("hole(0, 0)", x.hole(0, 0), 0);
        Build.act(x, 0, STOP, 0, 0, 12);
        Edge.beside("choice(0)", x.choice(0), 0);
        valueIs(false, x, 0, false, 0, 1);
        Edge.beside("hole(0, 0)", x.hole(0, 0), 1);
        x.drop(0);
        Edge.met("an END again", x.choice(0), -1);
        Edge.met("an END again", x.hole(0, 0), 0);
    }

    private static void rightIsTwelve() {
        Edge.sentence("Terms", "one is RIGHT if its PARTS are twelve in all");
        for (int kind = PLAIN; kind <= STOP; kind++) {
            ChanceCourt x = Build.states(2);
            x.act(0, kind, 0);
            Edge.beside("none", x.sets(0), -2);
            x.outcome(0, 0, 0, 11);
            Edge.beside("eleven of kind " + kind, x.sets(0), -2);
            Edge.beside("lacking", x.whole(), 1);
            x.drop(0);
            x.act(0, kind, 0);
            x.outcome(0, 0, 0, 12);
            Edge.met("twelve of kind " + kind, x.sets(0), 0);
            Edge.met("lacking", x.whole(), 0);
        }
    }

    private static void wholeIsAllRight() {
        Edge.sentence("Terms", "The system is WHOLE if all ACTS are RIGHT");
        ChanceCourt x = Build.states(3);
        Edge.met("no ACTS", x.sets(1), 7);
        Build.act(x, 0, SURE, 0, 1, 12);
        x.mark(2);
        Edge.met("one that is", x.sets(0), 3);
        x.act(0, PLAIN, 0);
        Edge.beside("the second of a STATE isn't", x.sets(0), -2);
        x.drop(0);
        x.act(1, PLAIN, 0);
        Edge.beside("a MARKED STATE's isn't", x.sets(0), -2);
        x.drop(1);
        x.act(2, PLAIN, 0);
        Edge.beside("one that is never come to isn't", x.sets(0), -2);
        x.drop(2);
        Edge.met("it went", x.sets(0), 3);
    }

    private static void lowestTerms() {
        Edge.sentence("Terms", "FRACTIONS are told in lowest terms");
        int[] upper = {0, 1, 1, 1, 1, 5, 1, 7, 2, 3, 5, 11, 1};
        int[] lower = {1, 12, 6, 4, 3, 12, 2, 12, 3, 4, 6, 12, 1};
        for (int part = 1; part < 12; part++) {
            ChanceCourt x = Build.states(3);
            Build.act(x, 0, PLAIN, part, 1, part, 2, 12 - part);
            Build.act(x, 2, PLAIN, part, 2, 12);
            x.mark(2);
            boolean met = lower[part] != 12;
            valueIs(met, x, 0, false, upper[part], lower[part]);
            valueIs(met, x, 0, true, upper[part], lower[part]);
            Edge.either(met, "sum", x.sum(0, 0, 0), upper[part]);
            Edge.either(met, "sum", x.sum(0, 0, 1), lower[part]);
            Edge.either(met, "within", x.within(0, 10, false, 0), upper[part]);
            Edge.either(met, "within", x.within(0, 10, false, 1), lower[part]);
            x.keep(0, 2, 0, 0);
            Edge.either(met, "weight", x.weight(0), upper[part]);
            x.keep(0, 4, 0, 0);
            Edge.either(met, "element", x.element(0, 1), lower[part]);
            ChanceCourt y = Build.states(2);
            Build.act(y, 0, PLAIN, 1, 1, part, 0, 12 - part);
            y.mark(2);
            // 12 / part
            Edge.either(met, "cost", y.cost(0, 0), lower[part]);
            Edge.either(met, "cost", y.cost(0, 1), upper[part]);
        }
    }

    private static void zeroByOne() {
        Edge.sentence("Terms", "the lower number above 0 (0 as 0 / 1)");
        ChanceCourt x = Build.states(3);
        Build.act(x, 0, PLAIN, 0, 0, 5, 1, 7);
        Build.act(x, 2, PLAIN, 9, 1, 1, 2, 11);
        valueIs(true, x, 0, false, 0, 1);
        valueIs(true, x, 0, true, 0, 1);
        Edge.met("sum", x.sum(0, 0, 0), 0);
        Edge.met("sum", x.sum(0, 0, 1), 1);
        Edge.met("within", x.within(0, 10, false, 0), 0);
        Edge.met("within", x.within(0, 10, false, 1), 1);
        x.mark(2);
        Edge.met("cost", x.cost(0, 0), 0);
        Edge.met("cost", x.cost(0, 1), 1);
        Edge.beside("cost", x.cost(2, 0), 108);
        valueIs(false, x, 0, false, 1, 1);
        Edge.beside("sum", x.sum(0, 0, 1), 1);
        Edge.beside("within", x.within(0, 1, false, 1), 12);
    }

    private static void markedByBits() {
        Edge.sentence("Terms", "MARKED are a set of STATES (bit s: STATE s)");
        ChanceCourt x = Build.states(10);
        for (int s = 0; s < 10; s++) {
            x.mark(1 << s);
            for (int t = 0; t < 10; t++) {
                Edge.either(t == s, "distance(" + t + "), mark of " + s, x.distance(t), t == s ? 0 : -4);
            }
        }
    }

    private static void markedHasChanceOne() {
        Edge.sentence("Terms", "(it is 1 for these)");
        ChanceCourt x = Build.states(2);
        Build.act(x, 0, SURE, 0, 1, 12);
        x.mark(1);
        valueIs(true, x, 0, false, 1, 1);
        valueIs(true, x, 0, true, 1, 1);
        Edge.met("within", x.within(0, 10, true, 0), 1);
        Edge.met("its ACT's sum is 0 all the same", x.sum(0, 0, 0), 0);
        x.mark(0);
        valueIs(false, x, 0, false, 0, 1);
        x.mark(2);
        valueIs(false, x, 0, true, 1, 1);
        x.drop(0);
        Build.act(x, 0, FOE, 0, 0, 12);
        x.mark(1);
        valueIs(true, x, 0, false, 1, 1);
    }

    private static void endHasChanceZero() {
        Edge.sentence("Terms", "(0 for an END that isn't MARKED)");
        ChanceCourt x = Build.states(2);
        Build.act(x, 0, PLAIN, 0, 1, 12);
        valueIs(true, x, 1, false, 0, 1);
        valueIs(true, x, 0, true, 0, 1);
        x.mark(2);
        valueIs(false, x, 1, false, 1, 1);
        valueIs(false, x, 0, true, 1, 1);
    }

    private static void leastSolution() {
        Edge.sentence("Terms", "the least solution");
        ChanceCourt x = Build.states(4);
        Build.act(x, 0, PLAIN, 0, 0, 12);
        Build.act(x, 1, PLAIN, 0, 2, 12);
        Build.act(x, 2, PLAIN, 0, 1, 12);
        x.mark(8);
        valueIs(true, x, 0, false, 0, 1);
        valueIs(true, x, 1, false, 0, 1);
        x.drop(0);
        Build.act(x, 0, PLAIN, 0, 0, 11, 3, 1);
        valueIs(false, x, 0, true, 1, 1);
        x.drop(2);
        Build.act(x, 2, PLAIN, 0, 1, 11, 0, 1);
        valueIs(false, x, 1, true, 1, 1);
    }

    private static void oneChoiceForAll() {
        Edge.sentence("Terms", "MOST: the greatest CHANCE that a CHOICE brings, LEAST: the least one");
        ChanceCourt x = Build.states(5);
        // 0 and 1 would each send to the other; a ring of both comes to nothing.
        Build.act(x, 0, PLAIN, 0, 1, 12);
        Build.act(x, 0, PLAIN, 0, 3, 5, 4, 7);
        Build.act(x, 1, PLAIN, 0, 0, 12);
        Build.act(x, 1, PLAIN, 0, 3, 6, 4, 6);
        x.mark(8);
        valueIs(true, x, 0, false, 1, 2);
        valueIs(true, x, 1, false, 1, 2);
        valueIs(true, x, 0, true, 0, 1);
        valueIs(true, x, 1, true, 0, 1);
        Edge.met("choice(0)", x.choice(0), 0);
        Edge.met("choice(1)", x.choice(1), 1);
        x.drop(1);
        valueIs(false, x, 0, false, 5, 12);
        valueIs(false, x, 1, false, 5, 12);
        Edge.beside("choice(0)", x.choice(0), 1);
        Edge.beside("choice(1)", x.choice(1), 0);
    }

    private static ChanceCourt foeBetween() {
        ChanceCourt x = Build.states(5);
        Build.act(x, 0, FOE, 0, 3, 7, 4, 5);
        Build.act(x, 0, FOE, 0, 3, 5, 4, 7);
        Build.act(x, 1, PLAIN, 0, 3, 7, 4, 5);
        Build.act(x, 1, PLAIN, 0, 3, 5, 4, 7);
        x.mark(8);
        return x;
    }

    private static void foeInMost() {
        Edge.sentence("Terms", "chosen by the other side: in MOST for the least");
        ChanceCourt x = foeBetween();
        valueIs(true, x, 0, false, 5, 12);
        Edge.met("within", x.within(0, 1, false, 0), 5);
        Edge.met("bound", x.bound(0, 6), -3);
        Edge.met("choice", x.choice(0), 1);
        valueIs(false, x, 1, false, 7, 12);
        Edge.beside("within", x.within(1, 1, false, 0), 7);
        Edge.beside("bound", x.bound(1, 6), 1);
        Edge.beside("choice", x.choice(1), 0);
    }

    private static void foeInLeast() {
        Edge.sentence("Terms", "in LEAST for the greatest");
        ChanceCourt x = foeBetween();
        valueIs(true, x, 0, true, 7, 12);
        Edge.met("within", x.within(0, 1, true, 0), 7);
        valueIs(false, x, 1, true, 5, 12);
        Edge.beside("within", x.within(1, 1, true, 0), 5);
        Build.act(x, 0, FOE, 0, 0, 12);
        valueIs(true, x, 0, false, 0, 1);
        valueIs(true, x, 0, true, 7, 12);
        Build.act(x, 1, STOP, 0, 1, 12);
        valueIs(false, x, 1, false, 7, 12);
        valueIs(false, x, 1, true, 0, 1);
    }

    private static void justMost() {
        Edge.sentence("Terms", "of the ACTS whose sum is just MOST");
        ChanceCourt x = Build.states(4);
        Build.act(x, 0, PLAIN, 0, 1, 6, 2, 6);
        Build.act(x, 0, PLAIN, 0, 1, 7, 2, 5);
        x.mark(2);
        Edge.beside("a twelfth less", x.choice(0), 1);
        x.drop(0);
        Build.act(x, 0, PLAIN, 0, 2, 6, 1, 6);
        Edge.met("the same", x.choice(0), 0);
        x.drop(0);
        Build.act(x, 3, PLAIN, 0, 0, 12);
        Build.act(x, 3, PLAIN, 0, 1, 5, 2, 7);
        Edge.beside("the nearer one is a twelfth less", x.choice(3), 0);
        Edge.beside("its distance", x.distance(3), 2);
        x.drop(3);
        Build.act(x, 3, PLAIN, 0, 1, 6, 2, 6);
        Edge.met("the nearer one is the same", x.choice(3), 1);
        Edge.met("its distance", x.distance(3), 1);
    }

    private static void outcomeNearer() {
        Edge.sentence("Terms", "those that have an OUTCOME NEARER .. NEARER: of less DISTANCE");
        ChanceCourt x = Build.states(5);
        // 1 and 2 are as near as one another, and both are SURE.
        Build.act(x, 1, PLAIN, 0, 2, 12);
        Build.act(x, 1, PLAIN, 0, 3, 1, 1, 11);
        Build.act(x, 2, PLAIN, 0, 1, 12);
        Build.act(x, 2, PLAIN, 0, 3, 12);
        Build.act(x, 0, PLAIN, 0, 0, 12);
        Build.act(x, 0, PLAIN, 0, 1, 12);
        x.mark(8);
        Edge.beside("of the same DISTANCE", x.choice(1), 1);
        Edge.beside("of the same DISTANCE", x.choice(2), 1);
        Edge.met("of one less", x.choice(0), 1);
        Edge.met("distance(0)", x.distance(0), 2);
        x.drop(1);
        Edge.met("2 is nearer than 1 now", x.choice(1), 0);
        Edge.met("distance(1)", x.distance(1), 2);
        Edge.met("distance(0)", x.distance(0), 3);
        ChanceCourt y = Build.states(4);
        Build.act(y, 0, PLAIN, 0, 1, 6, 3, 6);
        Build.act(y, 1, PLAIN, 0, 0, 12);
        Build.act(y, 1, PLAIN, 0, 2, 3, 3, 3, 0, 6);
        y.mark(4);
        // v0 = v1 / 2, v1 = 1/4 + v0 / 2
        valueIs(false, y, 1, false, 1, 3);
        Edge.met("a LOST OUTCOME is not nearer", y.choice(1), 1);
        Edge.met("distance(0)", y.distance(0), 2);
    }

    private static void firstOfThese() {
        Edge.sentence("Terms", "of these the first");
        ChanceCourt x = Build.states(3);
        Build.act(x, 0, PLAIN, 0, 2, 12);
        Build.act(x, 0, STOP, 0, 0, 12);
        Build.act(x, 0, PLAIN, 5, 0, 6, 1, 6);
        Build.act(x, 0, PLAIN, 0, 1, 12);
        x.mark(2);
        Edge.met("the third: neither the cheapest nor the surest", x.choice(0), 2);
        x.drop(0);
        Edge.met("the third alone", x.choice(0), 2);
        x.drop(0);
        Edge.beside("all are LOST", x.choice(0), 0);
        x.mark(4);
        Edge.beside("the first", x.choice(0), 0);
    }

    private static void distanceOfMarked() {
        Edge.sentence("Terms", "DISTANCE of MARKED STATES is 0");
        ChanceCourt x = Build.states(3);
        Build.act(x, 0, SURE, 0, 1, 12);
        Build.act(x, 1, SURE, 0, 2, 12);
        x.mark(4);
        Edge.beside("distance(0)", x.distance(0), 2);
        Edge.beside("distance(1)", x.distance(1), 1);
        Edge.met("distance(2)", x.distance(2), 0);
        x.mark(5);
        Edge.met("distance(0)", x.distance(0), 0);
        Edge.beside("distance(1)", x.distance(1), 1);
        x.mark(3);
        Edge.met("distance(1)", x.distance(1), 0);
        Edge.beside("distance(2)", x.distance(2), -4);
    }

    private static void distanceOfOthers() {
        Edge.sentence("Terms", "of others 1 more than the least one of an OUTCOME of an ACT whose sum is just MOST");
        ChanceCourt x = Build.states(10);
        for (int s = 0; s < 9; s++) {
            Build.act(x, s, PLAIN, 0, s + 1, 12);
        }
        x.mark(512);
        for (int s = 0; s < 9; s++) {
            Edge.met("distance(" + s + ")", x.distance(s), 9 - s);
        }
        Build.act(x, 0, PLAIN, 0, 0, 11, 5, 1);
        Edge.beside("by a twelfth", x.distance(0), 5);
        Build.act(x, 0, PLAIN, 0, 1, 4, 8, 4, 3, 4);
        Edge.beside("the least of three OUTCOMES", x.distance(0), 2);
        Edge.met("distance(1)", x.distance(1), 8);
    }

    private static void distanceOfFoe() {
        Edge.sentence("Terms", "(of the other side's STATES: of any such ACT)");
        ChanceCourt x = Build.states(4);
        Build.act(x, 0, FOE, 0, 1, 12);
        Build.act(x, 1, SURE, 0, 2, 12);
        x.mark(4);
        Edge.beside("one ACT", x.distance(0), 2);
        Build.act(x, 0, FOE, 0, 2, 12);
        Edge.met("two that are just MOST: the nearer", x.distance(0), 1);
        x.drop(1);
        Build.act(x, 1, PLAIN, 0, 2, 6, 3, 6);
        Edge.beside("the second isn't just MOST now", x.distance(0), 2);
        Edge.beside("choice(0)", x.choice(0), 0);
    }

    private static void choiceOfFoe() {
        Edge.sentence("Terms", "Of all other STATES that have ACTS it is the first one whose sum is just MOST (FOE)");
        ChanceCourt x = Build.states(4);
        Build.act(x, 0, FOE, 0, 1, 12);
        Build.act(x, 0, FOE, 0, 2, 12);
        Build.act(x, 1, SURE, 0, 2, 12);
        x.mark(4);
        Edge.met("the first, though the second is nearer", x.choice(0), 0);
        x.drop(0);
        x.drop(0);
        Build.act(x, 0, FOE, 0, 2, 12);
        Build.act(x, 0, FOE, 0, 2, 11, 3, 1);
        Edge.beside("the first isn't just MOST", x.choice(0), 1);
        Build.act(x, 0, FOE, 0, 3, 1, 1, 11);
        Edge.met("the second of three", x.choice(0), 1);
        Build.act(x, 0, FOE, 0, 0, 12);
        Edge.beside("the fourth stays for ever", x.choice(0), 3);
    }

    private static void choiceOfLost() {
        Edge.sentence("Terms", "Of all other STATES that have ACTS it is the first one whose sum is just MOST (LOST)");
        ChanceCourt x = Build.states(4);
        Build.act(x, 0, STOP, 0, 0, 12);
        Build.act(x, 0, SURE, 0, 1, 12);
        Build.act(x, 3, FOE, 0, 2, 12);
        Build.act(x, 3, FOE, 0, 1, 12);
        x.mark(4);
        Edge.met("choice(0)", x.choice(0), 0);
        Edge.met("the FOE's that is just 0", x.choice(3), 1);
        Build.act(x, 0, PLAIN, 0, 1, 11, 2, 1);
        Edge.beside("no longer LOST", x.choice(0), 2);
        x.mark(0);
        Edge.met("all are LOST", x.choice(0), 0);
        Edge.beside("the FOE's first is just 0, too", x.choice(3), 0);
    }

    private static void choiceOfMarked() {
        Edge.sentence("Terms", "(MARKED ones: the first one)");
        ChanceCourt x = Build.states(4);
        Build.act(x, 0, SURE, 0, 1, 12);
        Build.act(x, 0, SURE, 0, 2, 12);
        Build.act(x, 3, FOE, 0, 2, 12);
        Build.act(x, 3, FOE, 0, 1, 12);
        x.mark(4);
        Edge.beside("choice(0)", x.choice(0), 1);
        Edge.beside("choice(3)", x.choice(3), 1);
        x.mark(13);
        Edge.met("choice(0), MARKED", x.choice(0), 0);
        Edge.met("choice(3), MARKED", x.choice(3), 0);
        Edge.met("though its sum is 0", x.sum(0, 0, 0), 0);
    }

    private static void reachedItself() {
        Edge.sentence("Terms", "REACHED from a STATE: it, and all that OUTCOMES of ACTS of REACHED ones are");
        ChanceCourt x = Build.states(10);
        for (int s = 0; s < 9; s++) {
            Edge.met("itself", x.reached(s), 1 << s);
            Build.act(x, s, s % 2 == 0 ? PLAIN : FOE, 0, s + 1, 12);
        }
        Edge.beside("all, in nine ACTS", x.reached(0), 1023);
        Edge.met("the last alone", x.reached(9), 512);
        x.drop(5);
        Edge.beside("as far as 5", x.reached(0), 63);
        Edge.met("5 alone", x.reached(5), 32);
        Build.act(x, 9, SURE, 0, 0, 12);
        Edge.beside("from 6 around to 5", x.reached(6), 1023);
        Build.act(x, 5, FOE, 0, 5, 11, 6, 1);
        Edge.beside("around", x.reached(5), 1023);
    }

    private static void sureIsOne() {
        Edge.sentence("Terms", "SURE is a STATE from which MOST is 1");
        ChanceCourt x = Build.states(4);
        Build.act(x, 0, PLAIN, 0, 1, 11, 2, 1);
        x.mark(2);
        Edge.beside("eleven twelfths", x.sets(0), 2);
        Build.act(x, 2, PLAIN, 0, 0, 1, 2, 11);
        Edge.met("what is left comes back", x.sets(0), 7);
        Build.act(x, 2, STOP, 0, 2, 12);
        Edge.met("MOST: it needn't stay", x.sets(0), 7);
        Edge.beside("LEAST: it may", x.sets(2), 2);
        x.drop(2);
        x.drop(2);
        Build.act(x, 2, FOE, 0, 0, 1, 2, 11);
        Build.act(x, 2, FOE, 0, 2, 12);
        Edge.beside("the other side stays", x.sets(0), 2);
        Edge.met("LEAST: the other side leaves", x.sets(2), 7);
        x.drop(2);
        x.drop(2);
        Build.act(x, 2, PLAIN, 0, 0, 11, 3, 1);
        Edge.beside("a twelfth of what is left is LOST", x.sets(0), 2);
    }

    private static void lostIsZero() {
        Edge.sentence("Terms", "LOST one from which it is 0");
        ChanceCourt x = Build.states(4);
        Build.act(x, 0, PLAIN, 0, 1, 12);
        Build.act(x, 1, PLAIN, 0, 2, 12);
        x.mark(8);
        Edge.met("no way", x.sets(1), 7);
        Build.act(x, 1, PLAIN, 0, 2, 11, 3, 1);
        Edge.beside("a twelfth", x.sets(1), 4);
        Edge.met("LEAST is 0 still", x.sets(3), 7);
        x.drop(1);
        x.drop(1);
        Build.act(x, 1, FOE, 0, 2, 11, 3, 1);
        Edge.beside("a twelfth of the other side's", x.sets(1), 4);
        Build.act(x, 1, FOE, 0, 2, 12);
        Edge.met("the other side has another", x.sets(1), 7);
        Edge.beside("LEAST: it takes the first", x.sets(3), 4);
    }

    private static void costIsPaidEachTime() {
        Edge.sentence("Terms", "the COST of an ACT is paid each time that it is chosen");
        for (int part = 1; part <= 12; part++) {
            ChanceCourt x = Build.states(2);
            x.act(0, PLAIN, part);
            x.outcome(0, 0, 1, part);
            if (part < 12) {
                x.outcome(0, 0, 0, 12 - part);
            }
            x.mark(2);
            Edge.either(part < 12, "12 / part times part", x.cost(0, 0), 12);
            Edge.either(part < 12, "12 / part times part", x.cost(0, 1), 1);
        }
    }

    private static void costTillMarked() {
        Edge.sentence("Terms", "till a MARKED STATE is come to (of MARKED ones: 0)");
        ChanceCourt x = Build.states(4);
        for (int s = 0; s < 3; s++) {
            Build.act(x, s, SURE, 1000, s + 1, 12);
        }
        x.mark(8);
        Edge.beside("three ACTS", x.cost(0, 0), 3000);
        Edge.beside("one ACT", x.cost(2, 0), 1000);
        Edge.met("MARKED", x.cost(3, 0), 0);
        x.mark(12);
        Edge.beside("two ACTS", x.cost(0, 0), 2000);
        Edge.met("MARKED, with an ACT", x.cost(2, 0), 0);
        x.mark(9);
        Edge.met("MARKED, with an ACT", x.cost(0, 0), 0);
        Edge.beside("two ACTS", x.cost(1, 0), 2000);
    }

    private static void costUnderChanceOne() {
        Edge.sentence("Terms", "what CHOICES bring under which the STATE has CHANCE 1");
        ChanceCourt x = Build.states(3);
        Build.act(x, 0, PLAIN, 0, 0, 12);
        Build.act(x, 0, PLAIN, 0, 1, 11, 2, 1);
        Build.act(x, 0, PLAIN, 1000, 1, 12);
        x.mark(2);
        Edge.met("free ACTS that stay, or may be LOST, don't count", x.cost(0, 0), 1000);
        Build.act(x, 0, PLAIN, 1, 0, 11, 1, 1);
        Edge.beside("one that comes at last does", x.cost(0, 0), 12);
        x.drop(0);
        Build.act(x, 2, PLAIN, 0, 2, 11, 0, 1);
        Edge.beside("nothing is LOST now", x.cost(0, 0), 0);
        Edge.beside("nothing is LOST now", x.cost(2, 0), 0);
        ChanceCourt y = Build.states(4);
        Build.act(y, 0, SURE, 0, 1, 12);
        Build.act(y, 0, SURE, 7, 2, 12);
        Build.act(y, 1, SURE, 0, 0, 12);
        Build.act(y, 1, SURE, 8, 2, 12);
        y.mark(4);
        Edge.met("a free ring doesn't count", y.cost(0, 0), 7);
        Edge.met("a free ring doesn't count", y.cost(1, 0), 7);
        y.drop(0);
        Edge.beside("the free way on does", y.cost(0, 0), 8);
    }

    private static void costIsTheLeast() {
        Edge.sentence("Terms", "the least COST .. on an average");
        ChanceCourt x = Build.states(2);
        Build.act(x, 0, PLAIN, 1, 0, 11, 1, 1);
        Build.act(x, 0, PLAIN, 13, 1, 12);
        x.mark(2);
        Edge.beside("12 by trying", x.cost(0, 0), 12);
        x.drop(0);
        Build.act(x, 0, PLAIN, 12, 1, 12);
        Edge.met("12 by either", x.cost(0, 0), 12);
        x.drop(0);
        Build.act(x, 0, PLAIN, 11, 1, 12);
        Edge.beside("11 at once", x.cost(0, 0), 11);
        x.drop(0);
        Build.act(x, 0, PLAIN, 5, 0, 7, 1, 5);
        Edge.beside("12 by either", x.cost(0, 0), 12);
        x.drop(0);
        Build.act(x, 0, PLAIN, 5, 0, 6, 1, 6);
        Edge.beside("10 by better trying", x.cost(0, 0), 10);
    }
}
