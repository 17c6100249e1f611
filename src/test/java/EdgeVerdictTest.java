/** The boundaries of promises 8 to 14 and 16: each sentence on both its sides. */
public final class EdgeVerdictTest {
    private static final int MIN = Integer.MIN_VALUE;
    private static final int MAX = Integer.MAX_VALUE;
    private static final int PLAIN = 0;
    private static final int SURE = 1;
    private static final int FOE = 2;
    private static final int STOP = 3;

    public static void main(String[] args) {
        valueNeedsState();
        valueNeedsWhat();
        verdictNeedsWhole();
        verdictNeedsFive();
        fiveOfMostOrOfLeast();
        greatestLowerNumber();
        choiceNeedsAct();
        distanceNeedsState();
        lostHasNoDistance();
        sumNeedsAct();
        sumNeedsWhat();
        withinTenActs();
        withinNoActs();
        withinChoosesEachTime();
        withinNeedsState();
        withinNeedsWhat();
        withinNeedsWholeAlone();
        boundIsTheLeast();
        boundReachesTen();
        boundNeedsTwelfths();
        boundNeedsWhole();
        setsKnowsFour();
        setsNeedsWhole();
        setsSeesTheLastTwelfth();
        costNeedsState();
        costNeedsWhat();
        costNeedsWhole();
        costWithoutFoes();
        costOfFive();
        costNeedsSure();
        greatestCost();
        Edge.end();
    }

    /** So many STATES that come to STATE 8 with 1/12, or 2/12, .., and else to 9; 8 is MARKED. */
    private static ChanceCourt between(int n) {
        ChanceCourt x = Build.states(10);
        for (int s = 0; s < n; s++) {
            Build.act(x, s, PLAIN, 1, 8, s + 1, 9, 11 - s);
        }
        x.mark(1 << 8);
        return x;
    }

    /** STATE 0 comes to 1, MARKED, with so many twelfths each time; else it stays. */
    private static ChanceCourt trying(int part) {
        ChanceCourt x = Build.states(2);
        Build.act(x, 0, PLAIN, 1, 0, 12 - part, 1, part);
        x.mark(2);
        return x;
    }

    private static void valueNeedsState() {
        Edge.sentence("8", "-1 (the STATE)");
        ChanceCourt x = between(5);
        for (int s : new int[] {10, -1, MIN, MAX}) {
            Edge.met("value(" + s + ", false, 0)", x.value(s, false, 0), -1);
            Edge.met("value(" + s + ", true, 1)", x.value(s, true, 1), -1);
        }
        Edge.beside("value(0, false, 1)", x.value(0, false, 1), 12);
        Edge.beside("value(9, true, 1)", x.value(9, true, 1), 1);
        Edge.met("value(2, true, 0) of two", trying(1).value(2, true, 0), -1);
    }

    private static void valueNeedsWhat() {
        Edge.sentence("8", "what = 0 the upper, 1 the lower number");
        ChanceCourt x = between(5);
        for (int what : new int[] {-1, 2, MIN, MAX}) {
            Edge.met("value(4, false, " + what + ")", x.value(4, false, what), -1);
            Edge.met("value(4, true, " + what + ")", x.value(4, true, what), -1);
        }
        Edge.beside("value(4, false, 0)", x.value(4, false, 0), 5);
        Edge.beside("value(4, false, 1)", x.value(4, false, 1), 12);
        Edge.beside("value(4, true, 0)", x.value(4, true, 0), 5);
        Edge.beside("value(4, true, 1)", x.value(4, true, 1), 12);
    }

    private static void verdictNeedsWhole() {
        Edge.sentence("8 to 11", "-2: the system isn't WHOLE");
        ChanceCourt x = between(2);
        x.act(9, STOP, 0);
        x.outcome(9, 0, 9, 11);
        for (int s = 0; s < 10; s++) {
            Edge.met("value(" + s + ", false, 0)", x.value(s, false, 0), -2);
            Edge.met("value(" + s + ", true, 0)", x.value(s, true, 0), -2);
            Edge.met("distance(" + s + ")", x.distance(s), -2);
        }
        Edge.met("choice(0)", x.choice(0), -2);
        Edge.met("choice(9)", x.choice(9), -2);
        Edge.met("sum(0, 0, 0)", x.sum(0, 0, 0), -2);
        x.drop(9);
        Build.act(x, 9, STOP, 0, 9, 12);
        Edge.beside("value(1, false, 1)", x.value(1, false, 1), 6);
        Edge.beside("value(1, true, 1)", x.value(1, true, 1), 6);
        Edge.beside("distance(1)", x.distance(1), 1);
        Edge.beside("distance(9)", x.distance(9), -4);
        Edge.beside("choice(0)", x.choice(0), 0);
        Edge.beside("choice(9)", x.choice(9), 0);
        Edge.beside("sum(0, 0, 1)", x.sum(0, 0, 1), 12);
    }

    private static void verdictNeedsFive() {
        Edge.sentence("8 to 11", "-3: more than 5 STATES have one that is neither 0 nor 1");
        ChanceCourt five = between(5);
        ChanceCourt six = between(6);
        for (int s = 0; s < 10; s++) {
            Edge.met("value(" + s + ", false, 1) of six", six.value(s, false, 1), -3);
            Edge.met("value(" + s + ", true, 0) of six", six.value(s, true, 0), -3);
            Edge.met("distance(" + s + ") of six", six.distance(s), -3);
        }
        for (int s = 0; s < 6; s++) {
            Edge.met("choice(" + s + ") of six", six.choice(s), -3);
            Edge.met("sum(" + s + ", 0, 0) of six", six.sum(s, 0, 0), -3);
        }
        long[] lower = {12, 6, 4, 3, 12, 1, 1, 1, 1, 1};
        int[] distance = {1, 1, 1, 1, 1, -4, -4, -4, 0, -4};
        for (int s = 0; s < 10; s++) {
            Edge.beside("value(" + s + ", false, 1) of five", five.value(s, false, 1), lower[s]);
            Edge.beside("value(" + s + ", true, 1) of five", five.value(s, true, 1), lower[s]);
            Edge.beside("distance(" + s + ") of five", five.distance(s), distance[s]);
        }
        for (int s = 0; s < 5; s++) {
            Edge.beside("choice(" + s + ") of five", five.choice(s), 0);
            Edge.beside("sum(" + s + ", 0, 1) of five", five.sum(s, 0, 1), lower[s]);
        }
        six.mark(1 << 8 | 1);
        Edge.beside("MARKED ones don't count", six.value(5, false, 1), 2);
        six.mark(0);
        Edge.beside("LOST ones don't count", six.value(5, false, 1), 1);
        six.mark(1 << 8 | 1 << 9);
        Edge.beside("SURE ones don't count", six.value(5, true, 0), 1);
    }

    private static void fiveOfMostOrOfLeast() {
        Edge.sentence("8", "-3: MOST and LEAST each by its own");
        ChanceCourt x = between(6);
        Build.act(x, 5, SURE, 0, 8, 12);
        Edge.beside("MOST has five", x.value(5, false, 0), 1);
        Edge.met("LEAST has six", x.value(5, true, 0), -3);
        Edge.beside("choice(5)", x.choice(5), 1);
        Edge.beside("distance(5)", x.distance(5), 1);
        Edge.beside("sum(5, 0, 1)", x.sum(5, 0, 1), 2);
        x.drop(5);
        Build.act(x, 5, SURE, 0, 9, 12);
        Edge.met("MOST has six", x.value(5, false, 0), -3);
        Edge.beside("LEAST has five", x.value(5, true, 1), 1);
        Edge.met("choice(5)", x.choice(5), -3);
        Edge.met("distance(5)", x.distance(5), -3);
        Edge.met("sum(5, 0, 1)", x.sum(5, 0, 1), -3);
    }

    private static void greatestLowerNumber() {
        Edge.sentence("8, 11", "a fraction of five STATES, one behind the other");
        ChanceCourt x = Build.states(7);
        for (int s = 0; s < 5; s++) {
            Build.act(x, s, PLAIN, 0, s + 1, 1, 6, 11);
        }
        Build.act(x, 5, PLAIN, 0, 0, 1, 6, 11);
        x.mark(32);
        long lower = 12;
        for (int s = 4; s >= 0; s--) {
            Edge.beside("value(" + s + ", false, 0)", x.value(s, false, 0), 1);
            Edge.met("value(" + s + ", false, 1)", x.value(s, false, 1), lower);
            Edge.met("value(" + s + ", true, 1)", x.value(s, true, 1), lower);
            lower *= 12;
        }
        Edge.beside("sum(5, 0, 0)", x.sum(5, 0, 0), 1);
        Edge.met("sum(5, 0, 1)", x.sum(5, 0, 1), lower);
    }

    private static void choiceNeedsAct() {
        Edge.sentence("9", "-1 (a STATE without ACTS, too)");
        ChanceCourt x = trying(3);
        for (int s : new int[] {2, -1, MIN, MAX}) {
            Edge.met("choice(" + s + ")", x.choice(s), -1);
        }
        Edge.met("choice(1), MARKED, without ACTS", x.choice(1), -1);
        Edge.beside("choice(0)", x.choice(0), 0);
        Build.act(x, 1, SURE, 0, 0, 12);
        Edge.beside("choice(1), once it has one", x.choice(1), 0);
        x.drop(1);
        Edge.met("choice(1), once it went", x.choice(1), -1);
    }

    private static void distanceNeedsState() {
        Edge.sentence("10", "-1");
        ChanceCourt x = trying(3);
        for (int s : new int[] {2, -1, 10, MIN, MAX}) {
            Edge.met("distance(" + s + ")", x.distance(s), -1);
        }
        Edge.beside("distance(0)", x.distance(0), 1);
        Edge.beside("distance(1)", x.distance(1), 0);
        x.state();
        Edge.beside("distance(2), once it is there", x.distance(2), -4);
    }

    private static void lostHasNoDistance() {
        Edge.sentence("10", "-4: it is LOST");
        ChanceCourt x = Build.states(4);
        Build.act(x, 0, PLAIN, 0, 1, 1, 2, 11);
        Build.act(x, 3, STOP, 0, 3, 12);
        x.mark(2);
        Edge.beside("a twelfth is enough", x.distance(0), 1);
        Edge.beside("a MARKED one", x.distance(1), 0);
        Edge.met("an END", x.distance(2), -4);
        Edge.met("a STOP", x.distance(3), -4);
        Build.act(x, 3, SURE, 0, 0, 12);
        Edge.beside("two ACTS away", x.distance(3), 2);
        x.mark(0);
        for (int s = 0; s < 4; s++) {
            Edge.met("none is MARKED", x.distance(s), -4);
        }
        x.mark(15);
        for (int s = 0; s < 4; s++) {
            Edge.beside("all are MARKED", x.distance(s), 0);
        }
    }

    private static void sumNeedsAct() {
        Edge.sentence("11", "-1 (the ACT)");
        ChanceCourt x = trying(3);
        Build.act(x, 0, STOP, 0, 0, 12);
        Build.act(x, 0, PLAIN, 0, 1, 12);
        Build.act(x, 0, PLAIN, 0, 1, 12);
        for (int a : new int[] {4, -1, MIN, MAX}) {
            Edge.met("sum(0, " + a + ", 0)", x.sum(0, a, 0), -1);
        }
        for (int s : new int[] {2, -1, MIN, MAX}) {
            Edge.met("sum(" + s + ", 0, 0)", x.sum(s, 0, 0), -1);
        }
        Edge.met("a STATE without ACTS", x.sum(1, 0, 0), -1);
        for (int a = 0; a < 4; a++) {
            Edge.beside("sum(0, " + a + ", 0)", x.sum(0, a, 0), 1);
        }
        x.drop(0);
        Edge.met("sum(0, 3, 0), once it went", x.sum(0, 3, 0), -1);
    }

    private static void sumNeedsWhat() {
        Edge.sentence("11", "what = 0 the upper, 1 the lower number");
        ChanceCourt x = between(5);
        for (int what : new int[] {-1, 2, MIN, MAX}) {
            Edge.met("sum(4, 0, " + what + ")", x.sum(4, 0, what), -1);
        }
        Edge.beside("sum(4, 0, 0)", x.sum(4, 0, 0), 5);
        Edge.beside("sum(4, 0, 1)", x.sum(4, 0, 1), 12);
    }

    private static void withinTenActs() {
        Edge.sentence("12", "within k ACTS (0 .. 10)");
        ChanceCourt x = trying(1);
        for (int k : new int[] {-1, 11, MIN, MAX}) {
            Edge.met("within(0, " + k + ", false, 0)", x.within(0, k, false, 0), -1);
            Edge.met("within(0, " + k + ", true, 1)", x.within(0, k, true, 1), -1);
        }
        Edge.beside("within(0, 0, false, 0)", x.within(0, 0, false, 0), 0);
        Edge.beside("within(0, 0, false, 1)", x.within(0, 0, false, 1), 1);
        Edge.beside("within(1, 0, true, 0)", x.within(1, 0, true, 0), 1);
        Edge.beside("within(0, 10, false, 0)", x.within(0, 10, false, 0), 61917364224L - 25937424601L);
        Edge.beside("within(0, 10, true, 1)", x.within(0, 10, true, 1), 61917364224L);
        ChanceCourt chain = Build.states(10);
        for (int s = 0; s < 9; s++) {
            Build.act(chain, s, SURE, 0, s + 1, 12);
        }
        chain.mark(512);
        for (int s = 0; s < 9; s++) {
            Edge.met("one ACT too few", chain.within(s, 8 - s, false, 0), 0);
            Edge.beside("just as many as it takes", chain.within(s, 9 - s, false, 0), 1);
            Edge.beside("one more", chain.within(s, 10 - s, true, 0), 1);
        }
    }

    private static void withinNoActs() {
        Edge.sentence("12", "within k ACTS (k = 0)");
        ChanceCourt x = Build.states(10);
        for (int s = 0; s < 10; s++) {
            Build.act(x, s, SURE, 0, 9 - s, 12);
        }
        x.mark(31);
        for (int s = 0; s < 10; s++) {
            Edge.met("within(" + s + ", 0, false, 0)", x.within(s, 0, false, 0), s < 5 ? 1 : 0);
            Edge.met("within(" + s + ", 0, true, 1)", x.within(s, 0, true, 1), 1);
            Edge.met("bound(" + s + ", 12)", x.bound(s, 12), s < 5 ? 0 : 1);
            Edge.beside("within(" + s + ", 1, false, 0)", x.within(s, 1, false, 0), 1);
        }
    }

    /** The document doesn't say whether the ACT may be another at each step: here it may. */
    private static void withinChoosesEachTime() {
        Edge.sentence("12", "MOST, or LEAST, of coming to a MARKED STATE within k ACTS");
        ChanceCourt x = Build.states(3);
        Build.act(x, 0, PLAIN, 0, 1, 5, 2, 7);
        Build.act(x, 0, PLAIN, 0, 0, 6, 1, 3, 2, 3);
        x.mark(2);
        Edge.beside("one ACT: the first", x.within(0, 1, false, 0), 5);
        Edge.beside("one ACT: the first", x.within(0, 1, false, 1), 12);
        Edge.met("two ACTS: the second, then the first", x.within(0, 2, false, 0), 11);
        Edge.met("two ACTS: the second, then the first", x.within(0, 2, false, 1), 24);
        Edge.beside("one ACT: the second is the LEAST", x.within(0, 1, true, 1), 4);
        Edge.met("two ACTS: the second twice is the LEAST", x.within(0, 2, true, 0), 3);
        Edge.met("two ACTS: the second twice is the LEAST", x.within(0, 2, true, 1), 8);
    }

    private static void withinNeedsState() {
        Edge.sentence("12", "-1 (the STATE)");
        ChanceCourt x = trying(6);
        for (int s : new int[] {2, -1, 10, MIN, MAX}) {
            Edge.met("within(" + s + ", 1, false, 0)", x.within(s, 1, false, 0), -1);
        }
        Edge.beside("within(0, 1, false, 1)", x.within(0, 1, false, 1), 2);
        Edge.beside("within(1, 1, false, 0)", x.within(1, 1, false, 0), 1);
    }

    private static void withinNeedsWhat() {
        Edge.sentence("12", "what = 0 the upper, 1 the lower number");
        ChanceCourt x = trying(7);
        for (int what : new int[] {-1, 2, MIN, MAX}) {
            Edge.met("within(0, 1, false, " + what + ")", x.within(0, 1, false, what), -1);
        }
        Edge.beside("within(0, 1, false, 0)", x.within(0, 1, false, 0), 7);
        Edge.beside("within(0, 1, false, 1)", x.within(0, 1, false, 1), 12);
        Edge.beside("within(0, 1, true, 0)", x.within(0, 1, true, 0), 7);
    }

    private static void withinNeedsWholeAlone() {
        Edge.sentence("12", "-2");
        ChanceCourt x = between(6);
        Edge.beside("no -3, though six are between", x.within(5, 10, false, 1), 2);
        Edge.beside("no -3 for LEAST, either", x.within(5, 10, true, 1), 2);
        x.act(9, PLAIN, 0);
        x.outcome(9, 0, 9, 11);
        Edge.met("within(5, 0, false, 0)", x.within(5, 0, false, 0), -2);
        Edge.met("within(8, 10, true, 1)", x.within(8, 10, true, 1), -2);
        x.outcome(9, 0, 8, 1);
        Edge.beside("within(9, 1, false, 1)", x.within(9, 1, false, 1), 12);
    }

    private static void boundIsTheLeast() {
        Edge.sentence("13", "The least k for which within() MOST is at least p twelfths");
        ChanceCourt x = trying(6);
        // 6/12, 9/12, 10.5/12, 11.25/12
        int[] want = {0, 1, 1, 1, 1, 1, 1, 2, 2, 2, 3, 4, -3};
        for (int p = 0; p <= 12; p++) {
            if (p == 6 || p == 9) {
                Edge.met("just as much: bound(0, " + p + ")", x.bound(0, p), want[p]);
            } else {
                Edge.beside("bound(0, " + p + ")", x.bound(0, p), want[p]);
            }
            Edge.beside("a MARKED one: bound(1, " + p + ")", x.bound(1, p), 0);
        }
        Build.act(x, 0, STOP, 0, 0, 12);
        Edge.met("by MOST, not LEAST", x.bound(0, 9), 2);
    }

    private static void boundReachesTen() {
        Edge.sentence("13", "to 10 .. -3: there is none");
        // 1 - (10/12)^9 < 10/12 < 1 - (10/12)^10
        Edge.beside("ten ACTS are enough", trying(2).bound(0, 10), 10);
        Edge.met("for more they aren't", trying(2).bound(0, 11), -3);
        // 1 - (11/12)^10 < 7/12 < 1 - (11/12)^11
        Edge.met("eleven would be", trying(1).bound(0, 7), -3);
        Edge.beside("eight are enough", trying(1).bound(0, 6), 8);
        ChanceCourt x = Build.states(2);
        x.mark(2);
        Edge.met("an END", x.bound(0, 1), -3);
        Edge.beside("an END, nothing is asked", x.bound(0, 0), 0);
        Edge.met("SURE, but never quite", trying(11).bound(0, 12), -3);
        Edge.beside("SURE at once", trying(11).bound(1, 12), 0);
    }

    private static void boundNeedsTwelfths() {
        Edge.sentence("13", "p twelfths (0 .. 12). -1");
        ChanceCourt x = trying(11);
        for (int p : new int[] {-1, 13, MIN, MAX}) {
            Edge.met("bound(0, " + p + ")", x.bound(0, p), -1);
            Edge.met("bound(1, " + p + ")", x.bound(1, p), -1);
        }
        for (int s : new int[] {2, -1, MIN, MAX}) {
            Edge.met("bound(" + s + ", 0)", x.bound(s, 0), -1);
        }
        Edge.beside("bound(0, 0)", x.bound(0, 0), 0);
        Edge.beside("bound(0, 11)", x.bound(0, 11), 1);
        Edge.beside("bound(1, 12)", x.bound(1, 12), 0);
    }

    private static void boundNeedsWhole() {
        Edge.sentence("13", "-2");
        ChanceCourt x = between(6);
        Edge.beside("no -3 for six between", x.bound(5, 6), 1);
        x.act(8, FOE, 0);
        x.outcome(8, 0, 8, 11);
        Edge.met("bound(5, 0)", x.bound(5, 0), -2);
        Edge.met("bound(9, 12)", x.bound(9, 12), -2);
        x.outcome(8, 0, 9, 1);
        Edge.beside("bound(5, 0)", x.bound(5, 0), 0);
        Edge.beside("bound(9, 12)", x.bound(9, 12), -3);
    }

    private static void setsKnowsFour() {
        Edge.sentence("14", "-1");
        ChanceCourt x = between(6);
        for (int what : new int[] {-1, 4, MIN, MAX}) {
            Edge.met("sets(" + what + ")", x.sets(what), -1);
        }
        int[] want = {1 << 8, 1023 & ~63 & ~(1 << 8), 1 << 8, 1023 & ~63 & ~(1 << 8)};
        for (int what = 0; what < 4; what++) {
            Edge.beside("sets(" + what + "), six between", x.sets(what), want[what]);
        }
        x.mark(1023);
        int[] all = {1023, 0, 1023, 0};
        for (int what = 0; what < 4; what++) {
            Edge.beside("sets(" + what + "), all MARKED", x.sets(what), all[what]);
        }
        ChanceCourt none = new ChanceCourt();
        for (int what = 0; what < 4; what++) {
            Edge.beside("sets(" + what + ") of none", none.sets(what), 0);
        }
    }

    private static void setsNeedsWhole() {
        Edge.sentence("14", "-2");
        ChanceCourt x = trying(1);
        x.act(1, PLAIN, 0);
        x.outcome(1, 0, 1, 11);
        for (int what = 0; what < 4; what++) {
            Edge.met("sets(" + what + ")", x.sets(what), -2);
        }
        x.outcome(1, 0, 0, 1);
        int[] want = {3, 0, 3, 0};
        for (int what = 0; what < 4; what++) {
            Edge.beside("sets(" + what + ")", x.sets(what), want[what]);
        }
    }

    private static void setsSeesTheLastTwelfth() {
        Edge.sentence("14", "STATES that are SURE (what = 0), LOST (1), whose LEAST is 1 (2), 0 (3)");
        ChanceCourt x = Build.states(4);
        Build.act(x, 0, PLAIN, 0, 2, 12);
        Build.act(x, 1, PLAIN, 0, 3, 12);
        x.mark(4);
        int[] whole = {5, 10, 5, 10};
        for (int what = 0; what < 4; what++) {
            Edge.met("sets(" + what + ")", x.sets(what), whole[what]);
        }
        x.drop(0);
        x.drop(1);
        Build.act(x, 0, PLAIN, 0, 2, 11, 3, 1);
        Build.act(x, 1, PLAIN, 0, 3, 11, 2, 1);
        int[] torn = {4, 8, 4, 8};
        for (int what = 0; what < 4; what++) {
            Edge.beside("sets(" + what + "), a twelfth elsewhere", x.sets(what), torn[what]);
        }
        Build.act(x, 0, PLAIN, 0, 2, 12);
        Build.act(x, 1, PLAIN, 0, 3, 12);
        int[] chosen = {5, 8, 4, 10};
        for (int what = 0; what < 4; what++) {
            Edge.beside("sets(" + what + "), by choice", x.sets(what), chosen[what]);
        }
    }

    private static void costNeedsState() {
        Edge.sentence("16", "-1 (the STATE)");
        ChanceCourt x = trying(3);
        for (int s : new int[] {2, -1, 10, MIN, MAX}) {
            Edge.met("cost(" + s + ", 0)", x.cost(s, 0), -1);
        }
        Edge.beside("cost(0, 0)", x.cost(0, 0), 4);
        Edge.beside("cost(1, 0)", x.cost(1, 0), 0);
    }

    private static void costNeedsWhat() {
        Edge.sentence("16", "what = 0 the upper, 1 the lower number");
        ChanceCourt x = trying(5);
        for (int what : new int[] {-1, 2, MIN, MAX}) {
            Edge.met("cost(0, " + what + ")", x.cost(0, what), -1);
        }
        Edge.beside("cost(0, 0)", x.cost(0, 0), 12);
        Edge.beside("cost(0, 1)", x.cost(0, 1), 5);
        Edge.beside("cost(1, 0)", x.cost(1, 0), 0);
        Edge.beside("cost(1, 1)", x.cost(1, 1), 1);
    }

    private static void costNeedsWhole() {
        Edge.sentence("16", "-2");
        ChanceCourt x = trying(6);
        x.act(1, PLAIN, 0);
        x.outcome(1, 0, 1, 11);
        Edge.met("cost(0, 0)", x.cost(0, 0), -2);
        Edge.met("cost(1, 1)", x.cost(1, 1), -2);
        x.outcome(1, 0, 0, 1);
        Edge.beside("cost(0, 0)", x.cost(0, 0), 2);
        Edge.beside("cost(1, 1)", x.cost(1, 1), 1);
    }

    private static void costWithoutFoes() {
        Edge.sentence("16", "-3: there are FOE ACTS");
        ChanceCourt x = trying(6);
        x.state();
        Edge.beside("no FOE ACT", x.cost(0, 0), 2);
        Build.act(x, 2, FOE, 0, 2, 12);
        Edge.met("one that is never come to", x.cost(0, 0), -3);
        Edge.met("of a MARKED one", x.cost(1, 0), -3);
        Edge.met("of one that isn't SURE", x.cost(2, 0), -3);
        x.drop(2);
        Edge.beside("it went", x.cost(0, 0), 2);
        Build.act(x, 1, FOE, 0, 0, 12);
        Edge.met("one of a MARKED STATE", x.cost(0, 0), -3);
    }

    private static void costOfFive() {
        Edge.sentence("16", "-3: more than 5 STATES that are SURE and not MARKED");
        ChanceCourt x = Build.states(10);
        for (int s = 0; s < 5; s++) {
            Build.act(x, s, SURE, s, 8, 12);
        }
        x.mark(1 << 8);
        for (int s = 0; s < 5; s++) {
            Edge.beside("cost(" + s + ", 0) of five", x.cost(s, 0), s);
        }
        Build.act(x, 5, PLAIN, 9, 8, 11, 9, 1);
        Edge.beside("a sixth that isn't SURE", x.cost(4, 0), 4);
        Build.act(x, 5, PLAIN, 9, 8, 12);
        for (int s = 0; s < 10; s++) {
            Edge.met("cost(" + s + ", 0) of six", x.cost(s, 0), -3);
        }
        x.mark(1 << 8 | 1 << 5);
        Edge.beside("the sixth is MARKED", x.cost(4, 0), 4);
        Edge.beside("the sixth is MARKED", x.cost(5, 0), 0);
        x.mark(0);
        Edge.beside("none is SURE", x.cost(4, 0), -4);
        x.mark(1023);
        Edge.beside("all are MARKED", x.cost(9, 0), 0);
    }

    private static void costNeedsSure() {
        Edge.sentence("16", "-4: the STATE isn't SURE");
        ChanceCourt x = Build.states(4);
        Build.act(x, 0, PLAIN, 7, 1, 11, 2, 1);
        x.mark(2);
        Edge.met("eleven twelfths", x.cost(0, 0), -4);
        Edge.met("an END", x.cost(2, 1), -4);
        Edge.beside("a MARKED one", x.cost(1, 0), 0);
        Build.act(x, 2, PLAIN, 7, 2, 11, 0, 1);
        // c0 = 7 + c2 / 12, c2 = 84 + c0
        Edge.beside("the twelfth comes back", x.cost(0, 0), 168);
        Edge.beside("the twelfth comes back", x.cost(0, 1), 11);
        Build.act(x, 3, PLAIN, 7, 3, 12);
        Edge.met("it stays for ever", x.cost(3, 0), -4);
        x.mark(0);
        for (int s = 0; s < 4; s++) {
            Edge.met("none is MARKED", x.cost(s, 0), -4);
        }
    }

    private static void greatestCost() {
        Edge.sentence("16", "a COST of five STATES, each 1000, that come back to the first");
        ChanceCourt x = Build.states(6);
        for (int s = 0; s < 5; s++) {
            Build.act(x, s, PLAIN, 1000, s + 1, 1, 0, 11);
        }
        x.mark(32);
        long cost = 0;
        long power = 1;
        for (int s = 4; s >= 0; s--) {
            power *= 12;
            cost += 1000 * power;
        }
        Edge.met("cost(0, 0)", x.cost(0, 0), cost);
        Edge.met("cost(0, 1)", x.cost(0, 1), 1);
        Edge.beside("the last: eleven times the first and the ACT itself", 12 * x.cost(4, 0), 11 * cost + 12000);
    }
}
