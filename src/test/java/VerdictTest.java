/** Promises 8 to 14 and 16: chances, choices, chances within steps, sets and costs. */
public final class VerdictTest {
    public static void main(String[] args) {
        valueOfMdp();
        valueOfGame();
        chanceIsTheLeastSolution();
        refusalsOfVerdict();
        moreThanFive();
        choiceGoesNearer();
        choiceOfOthers();
        distanceCalls();
        sumCalls();
        withinCalls();
        boundCalls();
        setsCalls();
        costCalls();
        costOfFreeRings();
        costRefusals();
        answersFollowChanges();
        Due.end();
    }

    /** STATES 0, 1 between; 2 MARKED, 3 an END. */
    private static ChanceCourt pair() {
        ChanceCourt x = Build.states(4);
        Build.act(x, 0, 0, 1, 1, 6, 2, 3, 3, 3);
        Build.act(x, 0, 0, 2, 2, 5, 3, 7);
        Build.act(x, 1, 0, 3, 0, 6, 2, 6);
        Build.act(x, 1, 0, 4, 3, 12);
        Due.is("mark", x.mark(4), 1);
        return x;
    }

    private static void valueOfMdp() {
        ChanceCourt x = pair();
        // v0 = 1/4 + v1 / 2, v1 = 1/2 + v0 / 2
        Build.value(x, 0, false, 2, 3);
        Build.value(x, 1, false, 5, 6);
        Build.value(x, 2, false, 1, 1);
        Build.value(x, 3, false, 0, 1);
        Build.value(x, 0, true, 1, 4);
        Build.value(x, 1, true, 0, 1);
        Build.value(x, 2, true, 1, 1);
        Build.value(x, 3, true, 0, 1);
    }

    private static void valueOfGame() {
        ChanceCourt x = Build.states(4);
        Build.act(x, 0, 0, 0, 1, 12);
        Build.act(x, 0, 0, 0, 2, 4, 3, 8);
        Build.act(x, 1, 2, 0, 0, 12);
        Build.act(x, 1, 2, 0, 2, 9, 3, 3);
        x.mark(4);
        // The foe would only send it back, so the chooser must leave by itself.
        Build.value(x, 0, false, 1, 3);
        Build.value(x, 1, false, 1, 3);
        // Least: the foe seeks the most now and would leave, so the chooser doesn't go there.
        Build.value(x, 0, true, 1, 3);
        Build.value(x, 1, true, 3, 4);
        x.drop(0);
        Build.value(x, 0, false, 0, 1);
        Build.value(x, 0, true, 3, 4);
    }

    private static void chanceIsTheLeastSolution() {
        ChanceCourt x = Build.states(3);
        Build.act(x, 0, 0, 0, 1, 12);
        Build.act(x, 1, 0, 0, 0, 12);
        x.mark(4);
        Build.value(x, 0, false, 0, 1);
        Build.act(x, 1, 0, 0, 0, 11, 2, 1);
        Build.value(x, 0, false, 1, 1);
        Build.value(x, 0, true, 0, 1);
        // What a MARKED one does next is no matter.
        Build.act(x, 2, 0, 0, 0, 12);
        Build.value(x, 2, true, 1, 1);
        ChanceCourt far = Build.states(7);
        for (int s = 0; s < 5; s++) {
            Build.act(far, s, 0, 0, s + 1, 1, 6, 1, 0, 10);
        }
        far.mark(32);
        Build.value(far, 0, false, 1, 22622);
        Build.value(far, 4, true, 943, 11311);
    }

    private static void refusalsOfVerdict() {
        ChanceCourt x = pair();
        Due.is("state", x.value(4, false, 0), -1);
        Due.is("state", x.value(-1, true, 0), -1);
        Due.is("what", x.value(0, false, 2), -1);
        Due.is("what", x.value(0, false, -1), -1);
        Due.is("choice", x.choice(4), -1);
        Due.is("choice", x.choice(-1), -1);
        Due.is("choice of an end", x.choice(3), -1);
        Due.is("distance", x.distance(4), -1);
        Due.is("sum", x.sum(0, 2, 0), -1);
        Due.is("sum", x.sum(0, -1, 0), -1);
        Due.is("sum", x.sum(3, 0, 0), -1);
        Due.is("sum", x.sum(0, 0, 2), -1);
        x.act(3, 0, 0);
        x.outcome(3, 0, 3, 11);
        Due.is("value", x.value(0, false, 0), -2);
        Due.is("value", x.value(0, true, 1), -2);
        Due.is("value", x.value(0, true, 2), -1);
        Due.is("choice", x.choice(0), -2);
        Due.is("choice", x.choice(2), -1);
        Due.is("distance", x.distance(3), -2);
        Due.is("distance", x.distance(4), -1);
        Due.is("sum", x.sum(0, 0, 0), -2);
        Due.is("sum", x.sum(0, 0, 3), -1);
        x.outcome(3, 0, 0, 1);
        Build.value(x, 3, false, 1, 1);
    }

    private static void moreThanFive() {
        ChanceCourt x = Build.states(8);
        for (int s = 0; s < 6; s++) {
            Build.act(x, s, 0, 0, 6, 1 + s, 7, 11 - s);
            if (s == 4) {
                x.mark(64);
                Build.value(x, 4, false, 5, 12);
                Build.value(x, 4, true, 5, 12);
            }
        }
        for (int s = 0; s < 8; s++) {
            Due.is("value", x.value(s, false, 0), -3);
            Due.is("value", x.value(s, true, 1), -3);
            Due.is("distance", x.distance(s), -3);
            Due.is("choice", x.choice(s), s < 6 ? -3 : -1);
        }
        Due.is("sum", x.sum(0, 0, 0), -3);
        Due.is("sets are told all the same", x.sets(0), 64);
        Due.is("sets are told all the same", x.sets(1), 128);
        Due.is("within is told all the same", x.within(0, 1, false, 1), 12);
        Due.is("cost is told all the same", x.cost(6, 0), 0);
        Due.is("cost is told all the same", x.cost(0, 0), -4);
        // MOST has five then, LEAST six.
        Build.act(x, 0, 1, 0, 6, 12);
        Build.value(x, 0, false, 1, 1);
        Due.is("value", x.value(0, true, 0), -3);
        Due.is("choice", x.choice(0), 1);
        // And the other way round.
        x.drop(0);
        Build.act(x, 0, 1, 0, 7, 12);
        Due.is("value", x.value(0, false, 0), -3);
        Build.value(x, 0, true, 0, 1);
    }

    private static void choiceGoesNearer() {
        ChanceCourt x = Build.states(3);
        Build.act(x, 0, 0, 0, 0, 12);
        Build.act(x, 0, 0, 0, 1, 12);
        Build.act(x, 0, 0, 0, 0, 11, 1, 1);
        Build.act(x, 1, 0, 0, 0, 12);
        Build.act(x, 1, 0, 0, 2, 1, 1, 11);
        Build.act(x, 1, 0, 0, 2, 12);
        x.mark(4);
        Due.is("staying is tight, but not nearer", x.choice(0), 1);
        Due.is("going back is tight, but not nearer", x.choice(1), 1);
        Due.is("distance", x.distance(0), 2);
        Due.is("distance", x.distance(1), 1);
        Due.is("distance", x.distance(2), 0);
        ChanceCourt y = Build.states(4);
        Build.act(y, 0, 0, 0, 2, 1, 3, 11);
        Build.act(y, 0, 0, 0, 1, 12);
        Build.act(y, 1, 0, 0, 2, 6, 3, 6);
        y.mark(4);
        Due.is("nearer, but not just MOST", y.choice(0), 1);
        Due.is("distance by tight acts alone", y.distance(0), 2);
    }

    private static void choiceOfOthers() {
        ChanceCourt x = Build.states(5);
        Build.act(x, 0, 2, 0, 3, 12);
        Build.act(x, 0, 2, 0, 0, 6, 3, 3, 4, 3);
        Build.act(x, 0, 2, 0, 3, 6, 4, 6);
        Build.act(x, 1, 0, 0, 4, 12);
        Build.act(x, 1, 0, 0, 1, 12);
        Build.act(x, 3, 0, 0, 4, 12);
        Build.act(x, 3, 0, 0, 3, 12);
        Build.act(x, 2, 2, 0, 3, 12);
        Build.act(x, 2, 2, 0, 4, 12);
        x.mark(8);
        Due.is("the foe's first that is just MOST", x.choice(0), 1);
        Due.is("a lost one's first", x.choice(1), 0);
        Due.is("a marked one's first", x.choice(3), 0);
        Due.is("a lost one of the foe's", x.choice(2), 1);
        Due.is("distance of a lost one", x.distance(2), -4);
        Due.is("distance of an end", x.distance(4), -4);
    }

    private static void distanceCalls() {
        ChanceCourt x = Build.states(6);
        Build.act(x, 0, 2, 0, 1, 12);
        Build.act(x, 0, 2, 0, 2, 12);
        Build.act(x, 1, 1, 0, 2, 12);
        Build.act(x, 2, 0, 0, 3, 6, 4, 6);
        x.mark(8);
        Due.is("the foe's: of any act that is just MOST", x.distance(0), 2);
        Due.is("distance", x.distance(1), 2);
        Due.is("distance", x.distance(2), 1);
        Due.is("distance", x.distance(3), 0);
        Due.is("distance", x.distance(5), -4);
        ChanceCourt y = Build.states(10);
        for (int s = 0; s < 9; s++) {
            Build.act(y, s, 0, 0, s + 1, 1, 0, 11);
            if (s == 0) {
                y.drop(0);
                Build.act(y, 0, 1, 0, 1, 12);
            }
        }
        y.mark(512);
        for (int s = 0; s < 10; s++) {
            Due.is("the longest way", y.distance(s), 9 - s);
        }
    }

    private static void sumCalls() {
        ChanceCourt x = pair();
        long[][] want = {{2, 3}, {5, 12}};
        for (int a = 0; a < 2; a++) {
            Due.is("sum", x.sum(0, a, 0), want[a][0]);
            Due.is("sum", x.sum(0, a, 1), want[a][1]);
        }
        Due.is("sum", x.sum(1, 1, 0), 0);
        Due.is("sum", x.sum(1, 1, 1), 1);
        Build.act(x, 2, 0, 0, 0, 12);
        Due.is("sum of a marked one's act", x.sum(2, 0, 0), 2);
        Due.is("sum of a marked one's act", x.sum(2, 0, 1), 3);
    }

    private static void withinCalls() {
        ChanceCourt x = pair();
        fractionWithin(x, 0, 0, false, 0, 1);
        fractionWithin(x, 0, 1, false, 5, 12);
        fractionWithin(x, 0, 2, false, 1, 2);
        fractionWithin(x, 0, 1, true, 1, 4);
        fractionWithin(x, 1, 10, true, 0, 1);
        fractionWithin(x, 2, 0, true, 1, 1);
        fractionWithin(x, 3, 10, false, 0, 1);
        Due.is("state", x.within(4, 1, false, 0), -1);
        Due.is("k", x.within(0, 11, false, 0), -1);
        Due.is("k", x.within(0, -1, false, 0), -1);
        Due.is("what", x.within(0, 1, false, 2), -1);
        ChanceCourt foe = Build.states(3);
        Build.act(foe, 0, 2, 0, 1, 6, 2, 6);
        Build.act(foe, 0, 2, 0, 0, 9, 1, 3);
        foe.mark(2);
        fractionWithin(foe, 0, 1, false, 1, 4);
        fractionWithin(foe, 0, 2, false, 7, 16);
        fractionWithin(foe, 0, 3, false, 1, 2);
        fractionWithin(foe, 0, 1, true, 1, 2);
        fractionWithin(foe, 0, 2, true, 5, 8);
        ChanceCourt small = Build.states(2);
        Build.act(small, 0, 0, 0, 0, 11, 1, 1);
        small.mark(2);
        long twelve = 1;
        long eleven = 1;
        for (int k = 0; k <= 10; k++) {
            fractionWithin(small, 0, k, false, twelve - eleven, twelve);
            twelve *= 12;
            eleven *= 11;
        }
        small.act(1, 0, 0);
        Due.is("not whole", small.within(0, 1, false, 0), -2);
        Due.is("not whole, k", small.within(0, 11, false, 0), -1);
    }

    private static void fractionWithin(ChanceCourt x, int s, int k, boolean least, long upper, long lower) {
        String call = "within(" + s + ", " + k + ", " + least + ")";
        Due.is(call, x.within(s, k, least, 0), upper);
        Due.is(call, x.within(s, k, least, 1), lower);
    }

    private static void boundCalls() {
        ChanceCourt x = pair();
        int[] want = {0, 1, 1, 1, 1, 1, 2, 3};
        for (int p = 0; p < want.length; p++) {
            Due.is("bound(0, " + p + ")", x.bound(0, p), want[p]);
        }
        Due.is("never quite two thirds", x.bound(0, 8), -3);
        Due.is("bound", x.bound(0, 12), -3);
        Due.is("bound", x.bound(2, 12), 0);
        Due.is("bound", x.bound(3, 0), 0);
        Due.is("bound", x.bound(3, 1), -3);
        Due.is("state", x.bound(4, 1), -1);
        Due.is("p", x.bound(0, 13), -1);
        Due.is("p", x.bound(0, -1), -1);
        x.act(3, 0, 0);
        Due.is("not whole", x.bound(0, 0), -2);
        Due.is("not whole, p", x.bound(0, 13), -1);
        ChanceCourt y = Build.states(2);
        Build.act(y, 0, 0, 0, 0, 11, 1, 1);
        y.mark(2);
        // 1 - (11/12)^k is 0.5006 for k = 8 and 0.5811 for k = 10
        Due.is("bound", y.bound(0, 6), 8);
        Due.is("bound", y.bound(0, 7), -3);
        ChanceCourt z = Build.states(10);
        for (int s = 0; s < 9; s++) {
            Build.act(z, s, 1, 0, s + 1, 12);
        }
        z.mark(512);
        Due.is("the longest chain", z.bound(0, 12), 9);
    }

    private static void setsCalls() {
        ChanceCourt x = Build.states(5);
        Build.act(x, 0, 0, 0, 0, 11, 3, 1);
        Build.act(x, 0, 3, 0, 0, 12);
        Build.act(x, 1, 0, 0, 0, 12);
        Build.act(x, 1, 0, 0, 3, 6, 4, 6);
        Build.act(x, 2, 0, 0, 3, 6, 2, 6);
        x.mark(8);
        Due.is("sure", x.sets(0), 15);
        Due.is("lost", x.sets(1), 16);
        Due.is("least is 1", x.sets(2), 12);
        Due.is("least is 0", x.sets(3), 19);
        Due.is("what", x.sets(4), -1);
        Due.is("what", x.sets(-1), -1);
        x.act(4, 2, 0);
        Due.is("not whole", x.sets(0), -2);
        Due.is("not whole, what", x.sets(4), -1);
        x.outcome(4, 0, 0, 12);
        Due.is("sure", x.sets(0), 31);
        Build.act(x, 4, 2, 0, 4, 12);
        Due.is("the foe stays", x.sets(1), 16);
        Due.is("the foe leaves, and is sent nowhere", x.sets(3), 19);
    }

    private static void costCalls() {
        ChanceCourt x = Build.states(4);
        Build.act(x, 0, 0, 1, 0, 11, 1, 1);
        Build.act(x, 0, 0, 13, 1, 12);
        Build.act(x, 1, 0, 5, 0, 5, 2, 7);
        Build.act(x, 1, 0, 0, 2, 11, 3, 1);
        Build.act(x, 2, 0, 1000, 2, 12);
        x.mark(4);
        // c0 = 12 + c1, c1 = 5 + 5/12 c0: c1 = 120/7
        costIs(x, 0, 204, 7);
        costIs(x, 1, 120, 7);
        costIs(x, 2, 0, 1);
        Due.is("not sure", x.cost(3, 0), -4);
        Due.is("not sure", x.cost(3, 1), -4);
        ChanceCourt dear = Build.states(6);
        for (int s = 0; s < 5; s++) {
            if (s == 0) {
                Build.act(dear, 0, 0, 1000, 1, 1, 0, 11);
            } else {
                Build.act(dear, s, 0, 1000, s + 1, 1, 0, 11);
            }
        }
        dear.mark(32);
        costIs(dear, 0, 1000L * (12 + 144 + 1728 + 20736 + 248832), 1);
    }

    private static void costIs(ChanceCourt x, int s, long upper, long lower) {
        Due.is("cost(" + s + ", 0)", x.cost(s, 0), upper);
        Due.is("cost(" + s + ", 1)", x.cost(s, 1), lower);
    }

    private static void costOfFreeRings() {
        ChanceCourt x = Build.states(4);
        Build.act(x, 0, 0, 0, 1, 12);
        Build.act(x, 0, 3, 0, 0, 12);
        Build.act(x, 0, 0, 9, 2, 12);
        Build.act(x, 1, 0, 0, 0, 12);
        Build.act(x, 1, 0, 7, 2, 6, 0, 6);
        x.mark(4);
        // Staying for ever costs nothing, but comes to nothing.
        costIs(x, 0, 9, 1);
        costIs(x, 1, 9, 1);
        x.drop(0);
        costIs(x, 0, 14, 1);
        costIs(x, 1, 14, 1);
        ChanceCourt y = Build.states(2);
        Build.act(y, 0, 0, 0, 0, 11, 1, 1);
        y.mark(2);
        costIs(y, 0, 0, 1);
    }

    private static void costRefusals() {
        ChanceCourt x = Build.states(8);
        for (int s = 0; s < 6; s++) {
            Due.is("cost", x.cost(6, 0), s < 2 ? -4 : 0);
            Build.act(x, s, 1, 1, 6, 12);
            if (s == 1) {
                x.mark(64);
            }
        }
        Due.is("six are sure and not marked", x.cost(6, 0), -3);
        Due.is("six, and one that isn't sure", x.cost(7, 0), -3);
        Due.is("state", x.cost(8, 0), -1);
        Due.is("what", x.cost(0, 2), -1);
        Due.is("what", x.cost(0, -1), -1);
        x.mark(65);
        costIs(x, 1, 1, 1);
        x.act(7, 0, 0);
        Due.is("not whole", x.cost(0, 0), -2);
        Due.is("not whole, what", x.cost(0, 2), -1);
        x.drop(7);
        Build.act(x, 7, 2, 0, 7, 12);
        Due.is("foe acts anywhere", x.cost(0, 0), -3);
        x.drop(7);
        costIs(x, 0, 0, 1);
    }

    private static void answersFollowChanges() {
        ChanceCourt x = pair();
        Build.value(x, 0, false, 2, 3);
        Due.is("distance", x.distance(0), 1);
        Due.is("cost", x.cost(2, 0), 0);
        x.mark(8);
        Build.value(x, 0, false, 3, 4);
        Build.value(x, 1, false, 1, 1);
        Due.is("choice", x.choice(1), 1);
        Due.is("cost", x.cost(2, 0), -4);
        costIs(x, 1, 4, 1);
        x.drop(1);
        Build.value(x, 1, false, 7, 24);
        Due.is("within", x.within(1, 1, false, 0), 0);
        Due.is("sets", x.sets(0), 8);
        Due.is("state", x.state(), 4);
        Due.is("sets", x.sets(1), 20);
        Build.act(x, 1, 1, 0, 4, 12);
        Build.value(x, 1, true, 0, 1);
    }
}
