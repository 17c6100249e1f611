/** The boundaries of promises 21 to 26: each sentence on both its sides. */
public final class EdgeShelfTest {
    private static final int MIN = Integer.MIN_VALUE;
    private static final int MAX = Integer.MAX_VALUE;
    private static final int PLAIN = 0;
    private static final int SURE = 1;
    private static final int FOE = 2;
    private static final int STOP = 3;
    private static final int INTS = 3;
    private static final int LONGS = 4;

    public static void main(String[] args) {
        shelvesHoldNothingAtFirst();
        keepNeedsShelf();
        keepKnowsFive();
        keepNeedsAct();
        keepNeedsState();
        keepLooksAtWhatItUses();
        keepNeedsVerdict();
        keepOfSix();
        keptAsItIsThen();
        rowOfParts();
        rowOfAllStates();
        makeNeedsShelf();
        makeKnowsTwo();
        makeUpToSixty();
        makeBelowZero();
        makeGivesZeros();
        elementNeedsShelf();
        elementNeedsRow();
        elementNeedsPlace();
        copyNeedsShelves();
        copyNeedsSomething();
        copyNeedsRows();
        copyNeedsOneKind();
        copyBelowZero();
        copyBeyondTheEnd();
        copyAsTheyWereBefore();
        weightNeedsShelf();
        weightNeedsSomething();
        weightOfARow();
        weightOfActs();
        weightOfNumbers();
        ratioNeedsShelves();
        ratioNeedsSomething();
        ratioNeedsNumbers();
        ratioByZero();
        ratioIsCut();
        Edge.end();
    }

    /** MOST of STATE 0 is 2/3, of 1 (MARKED) 1, of 2 (an END) 0. */
    private static ChanceCourt coin() {
        ChanceCourt x = Build.states(3);
        Build.act(x, 0, PLAIN, 4, 0, 6, 1, 4, 2, 2);
        x.mark(2);
        return x;
    }

    /** SHELF 0 an ACT, 1 a NUMBER (2/3), 2 ints (6 4 2), 3 longs (2 3 1 1 0 1), 4 a NUMBER (0), 5 .. 7 nothing. */
    private static ChanceCourt full() {
        ChanceCourt x = coin();
        for (int what = 1; what <= 4; what++) {
            Due.is("keep(" + (what - 1) + ", " + what + ", 0, 0)", x.keep(what - 1, what, 0, 0), 0);
        }
        Due.is("keep(4, 2, 2, 0)", x.keep(4, 2, 2, 0), 0);
        return x;
    }

    private static void row(boolean met, ChanceCourt x, int d, long... want) {
        for (int i = 0; i < want.length; i++) {
            Edge.either(met, "element(" + d + ", " + i + ")", x.element(d, i), want[i]);
        }
        Edge.either(met, "the row on " + d + " ends", Due.thrown(x, d, want.length), 2);
    }

    private static void shelvesHoldNothingAtFirst() {
        Edge.sentence("Terms", "SHELVES 0 .. 7 each hold nothing (at first)");
        ChanceCourt x = coin();
        for (int d = 0; d < 8; d++) {
            Edge.met("weight(" + d + ")", x.weight(d), -11);
            Edge.met("element(" + d + ", 0)", Due.thrown(x, d, 0), 2);
        }
        for (int d = 0; d < 8; d++) {
            x.keep(d, 1, 0, 0);
            Edge.beside("weight(" + d + ")", x.weight(d), 19);
            Edge.met("the next one's", x.weight(d + 1), d < 7 ? -11 : -1);
            x.keep(d, 0, 0, 0);
            Edge.met("nothing again", x.weight(d), -11);
        }
    }

    private static void keepNeedsShelf() {
        Edge.sentence("21", "-1 (the SHELF)");
        ChanceCourt x = coin();
        for (int d : new int[] {-1, 8, MIN, MAX}) {
            for (int what = 0; what <= 4; what++) {
                Edge.met("keep(" + d + ", " + what + ", 0, 0)", x.keep(d, what, 0, 0), -1);
            }
        }
        for (int what = 0; what <= 4; what++) {
            Edge.beside("keep(0, " + what + ", 0, 0)", x.keep(0, what, 0, 0), 0);
            Edge.beside("keep(7, " + what + ", 0, 0)", x.keep(7, what, 0, 0), 0);
        }
    }

    private static void keepKnowsFive() {
        Edge.sentence("21", "-1 (what)");
        ChanceCourt x = coin();
        x.keep(0, 1, 0, 0);
        for (int what : new int[] {-1, 5, MIN, MAX}) {
            Edge.met("keep(0, " + what + ", 0, 0)", x.keep(0, what, 0, 0), -1);
            Edge.met("the ACT is there still", x.weight(0), 19);
        }
        Edge.beside("keep(0, 4, 0, 0)", x.keep(0, 4, 0, 0), 0);
        Edge.beside("a ROW", x.weight(0), -12);
        Edge.beside("keep(0, 0, 0, 0)", x.keep(0, 0, 0, 0), 0);
        Edge.beside("nothing", x.weight(0), -11);
    }

    private static void keepNeedsAct() {
        Edge.sentence("21", "-1 (the ACT, of 1 and 3)");
        ChanceCourt x = coin();
        for (int a = 1; a < 4; a++) {
            x.act(0, PLAIN, a);
        }
        for (int what = 1; what <= 3; what += 2) {
            for (int k : new int[] {4, -1, MIN, MAX}) {
                Edge.met("keep(0, " + what + ", 0, " + k + ")", x.keep(0, what, 0, k), -1);
            }
            for (int s : new int[] {3, -1, 1, MIN, MAX}) {
                Edge.met("keep(0, " + what + ", " + s + ", 0)", x.keep(0, what, s, 0), -1);
            }
            Edge.met("nothing is held", x.weight(0), -11);
            Edge.beside("the first", x.keep(0, what, 0, 0), 0);
            Edge.beside("the last", x.keep(0, what, 0, 3), 0);
            x.keep(0, 0, 0, 0);
        }
        x.drop(0);
        Edge.met("one that went", x.keep(0, 1, 0, 3), -1);
        Edge.met("one that went", x.keep(0, 3, 0, 3), -1);
    }

    private static void keepNeedsState() {
        Edge.sentence("21", "-1 (the STATE, of 2)");
        ChanceCourt x = coin();
        for (int s : new int[] {3, -1, 10, MIN, MAX}) {
            Edge.met("keep(0, 2, " + s + ", 0)", x.keep(0, 2, s, 0), -1);
        }
        Edge.met("nothing is held", x.weight(0), -11);
        Edge.beside("keep(0, 2, 0, 0)", x.keep(0, 2, 0, 0), 0);
        Edge.beside("an END has a NUMBER, too", x.keep(1, 2, 2, 0), 0);
        Edge.beside("weight(1)", x.weight(1), 0);
    }

    private static void keepLooksAtWhatItUses() {
        Edge.sentence("21", "what = 0 nothing .. 4 of all STATES (s and k aren't used)");
        ChanceCourt x = coin();
        for (int odd : new int[] {-1, 99, MIN, MAX}) {
            Edge.met("keep(0, 4, odd, odd)", x.keep(0, 4, odd, odd), 0);
            Edge.met("a ROW", x.element(0, 1), 3);
            Edge.met("keep(0, 2, 0, odd)", x.keep(0, 2, 0, odd), 0);
            Edge.met("a NUMBER", x.weight(0), 2);
            Edge.met("keep(0, 0, odd, odd)", x.keep(0, 0, odd, odd), 0);
            Edge.met("nothing", x.weight(0), -11);
            Edge.beside("keep(0, 1, 0, odd)", x.keep(0, 1, 0, odd), -1);
            Edge.beside("keep(0, 3, 0, odd)", x.keep(0, 3, 0, odd), -1);
            Edge.beside("keep(0, 2, odd, 0)", x.keep(0, 2, odd, 0), -1);
        }
    }

    private static void keepNeedsVerdict() {
        Edge.sentence("21", "-2 as value() (of 2, 4)");
        ChanceCourt x = full();
        x.act(2, PLAIN, 3);
        x.outcome(2, 0, 2, 11);
        Edge.met("a NUMBER", x.keep(0, 2, 0, 0), -2);
        Edge.met("a ROW of longs", x.keep(0, 4, 0, 0), -2);
        Edge.met("the ACT is there still", x.weight(0), 19);
        Edge.beside("nothing", x.keep(5, 0, 0, 0), 0);
        Edge.beside("an ACT that isn't RIGHT", x.keep(5, 1, 2, 0), 0);
        Edge.beside("weight(5)", x.weight(5), 8);
        Edge.beside("a ROW of ints", x.keep(6, 3, 2, 0), 0);
        row(false, x, 6, 11);
        x.outcome(2, 0, 1, 1);
        Edge.beside("a NUMBER, once it is WHOLE", x.keep(0, 2, 0, 0), 0);
        Edge.beside("weight(0)", x.weight(0), 1);
        Edge.beside("a ROW of longs, once it is WHOLE", x.keep(0, 4, 0, 0), 0);
        row(false, x, 0, 1, 1, 1, 1, 1, 1);
    }

    private static void keepOfSix() {
        Edge.sentence("21", "-3 as value() (of 2, 4)");
        ChanceCourt x = Build.states(8);
        for (int s = 0; s < 5; s++) {
            Build.act(x, s, PLAIN, 0, 6, s + 1, 7, 11 - s);
        }
        x.mark(64);
        Edge.beside("a NUMBER of five", x.keep(0, 2, 4, 0), 0);
        Edge.beside("weight(0)", x.weight(0), 5);
        Edge.beside("longs of five", x.keep(1, 4, 0, 0), 0);
        row(false, x, 1, 1, 12, 1, 6, 1, 4, 1, 3, 5, 12, 0, 1, 1, 1, 0, 1);
        Build.act(x, 5, PLAIN, 0, 6, 7, 7, 5);
        for (int s = 0; s < 8; s++) {
            Edge.met("a NUMBER of six", x.keep(0, 2, s, 0), -3);
        }
        Edge.met("longs of six", x.keep(1, 4, 0, 0), -3);
        Edge.met("weight(0)", x.weight(0), 5);
        Edge.met("element(1, 9)", x.element(1, 9), 12);
        Edge.beside("an ACT of six", x.keep(2, 1, 5, 0), 0);
        Edge.beside("ints of six", x.keep(2, 3, 5, 0), 0);
        row(false, x, 2, 7, 5);
        Build.act(x, 5, SURE, 0, 7, 12);
        Edge.met("by MOST, not LEAST", x.keep(0, 2, 5, 0), -3);
        x.drop(5);
        Build.act(x, 5, SURE, 0, 6, 12);
        Edge.beside("by MOST, not LEAST", x.keep(0, 2, 5, 0), 0);
        Edge.beside("weight(0)", x.weight(0), 1);
    }

    private static void keptAsItIsThen() {
        Edge.sentence("Terms", "an ACT (as it is then)");
        ChanceCourt x = Build.states(3);
        x.act(0, PLAIN, 10);
        x.outcome(0, 0, 1, 5);
        x.keep(0, 1, 0, 0);
        x.keep(1, 3, 0, 0);
        x.outcome(0, 0, 2, 7);
        x.keep(2, 1, 0, 0);
        x.keep(3, 3, 0, 0);
        Edge.met("one OUTCOME then", x.weight(0), 15);
        row(true, x, 1, 5);
        Edge.beside("two OUTCOMES now", x.weight(2), 20);
        row(false, x, 3, 5, 7);
        x.mark(2);
        x.keep(4, 2, 0, 0);
        x.keep(5, 4, 0, 0);
        x.drop(0);
        Build.act(x, 0, STOP, 1, 0, 12);
        Edge.met("it went", x.weight(2), 20);
        row(true, x, 3, 5, 7);
        Edge.met("the NUMBER as it was", x.weight(4), 5);
        row(true, x, 5, 5, 12, 1, 1, 0, 1);
        x.keep(4, 2, 0, 0);
        Edge.beside("the NUMBER now", x.weight(4), 0);
        x.keep(2, 1, 0, 0);
        Edge.beside("the ACT now", x.weight(2), 112);
        Edge.beside("the one on another SHELF", x.weight(0), 15);
    }

    private static void rowOfParts() {
        Edge.sentence("21", "3 a ROW of ints: the PARTS of ACT k of STATE s");
        ChanceCourt x = Build.states(4);
        x.act(0, PLAIN, 0);
        Edge.met("keep, no OUTCOMES", x.keep(0, 3, 0, 0), 0);
        row(true, x, 0);
        Edge.met("an empty ROW is something", x.weight(0), -12);
        x.outcome(0, 0, 3, 1);
        x.outcome(0, 0, 2, 2);
        x.outcome(0, 0, 1, 3);
        x.outcome(0, 0, 0, 6);
        Edge.beside("keep, four OUTCOMES", x.keep(0, 3, 0, 0), 0);
        row(false, x, 0, 1, 2, 3, 6);
        Build.act(x, 0, STOP, 0, 0, 12);
        Edge.beside("keep, one OUTCOME", x.keep(0, 3, 0, 1), 0);
        row(false, x, 0, 12);
    }

    private static void rowOfAllStates() {
        Edge.sentence("21", "4 a ROW of longs: MOST of all STATES");
        ChanceCourt none = new ChanceCourt();
        Edge.met("keep, no STATES", none.keep(7, 4, 0, 0), 0);
        row(true, none, 7);
        ChanceCourt ten = Build.states(10);
        ten.mark(512);
        Build.act(ten, 0, PLAIN, 0, 9, 5, 1, 7);
        Edge.beside("keep, ten STATES", ten.keep(7, 4, 0, 0), 0);
        row(false, ten, 7, 5, 12, 0, 1, 0, 1, 0, 1, 0, 1, 0, 1, 0, 1, 0, 1, 0, 1, 1, 1);
    }

    private static void makeNeedsShelf() {
        Edge.sentence("22", "-1 (the SHELF)");
        ChanceCourt x = new ChanceCourt();
        for (int d : new int[] {-1, 8, MIN, MAX}) {
            Edge.met("make(" + d + ", 3, 1)", x.make(d, INTS, 1), -1);
            Edge.met("make(" + d + ", 4, 1)", x.make(d, LONGS, 1), -1);
        }
        Edge.beside("make(0, 3, 1)", x.make(0, INTS, 1), 0);
        Edge.beside("make(7, 4, 1)", x.make(7, LONGS, 1), 0);
        row(false, x, 0, 0);
        row(false, x, 7, 0);
    }

    private static void makeKnowsTwo() {
        Edge.sentence("22", "(what 3, 4 ..)");
        ChanceCourt x = full();
        for (int what : new int[] {2, 5, 0, 1, -1, MIN, MAX}) {
            Edge.met("make(0, " + what + ", 1)", x.make(0, what, 1), -1);
            Edge.met("the ACT is there still", x.weight(0), 19);
        }
        Edge.beside("make(0, 3, 1)", x.make(0, INTS, 1), 0);
        Edge.beside("make(1, 4, 1)", x.make(1, LONGS, 1), 0);
        Edge.beside("ints to longs", x.copy(0, 0, 1, 0, 1), -12);
        Edge.beside("make(0, 4, 1)", x.make(0, LONGS, 1), 0);
        Edge.beside("longs to longs", x.copy(0, 0, 1, 0, 1), 1);
    }

    private static void makeUpToSixty() {
        Edge.sentence("22", "n up to 60");
        for (int what = INTS; what <= LONGS; what++) {
            ChanceCourt x = new ChanceCourt();
            Edge.beside("make(0, " + what + ", 60)", x.make(0, what, 60), 0);
            for (int n : new int[] {61, 62, 1 << 20, MAX}) {
                Edge.met("make(0, " + what + ", " + n + ")", x.make(0, what, n), -1);
            }
            Edge.beside("the last place", x.element(0, 59), 0);
            Edge.met("none behind it", Due.thrown(x, 0, 60), 2);
        }
    }

    private static void makeBelowZero() {
        Edge.sentence("22", "-14: n is below 0");
        for (int what = INTS; what <= LONGS; what++) {
            ChanceCourt x = coin();
            x.keep(0, 1, 0, 0);
            for (int n : new int[] {-1, -2, -61, MIN}) {
                Edge.met("make(0, " + what + ", " + n + ")", x.make(0, what, n), -14);
                Edge.met("the ACT is there still", x.weight(0), 19);
            }
            Edge.beside("make(0, " + what + ", 0)", x.make(0, what, 0), 0);
            row(false, x, 0);
            Edge.beside("make(0, " + what + ", 1)", x.make(0, what, 1), 0);
            row(false, x, 0, 0);
        }
    }

    private static void makeGivesZeros() {
        Edge.sentence("22", "SHELF d gets a ROW of n ints, or longs, 0");
        ChanceCourt x = full();
        x.make(2, INTS, 4);
        row(true, x, 2, 0, 0, 0, 0);
        x.make(3, LONGS, 3);
        row(true, x, 3, 0, 0, 0);
        x.make(3, LONGS, 6);
        row(true, x, 3, 0, 0, 0, 0, 0, 0);
        x.keep(3, 4, 0, 0);
        row(false, x, 3, 2, 3, 1, 1, 0, 1);
        x.make(2, INTS, 2);
        x.keep(2, 3, 0, 0);
        row(false, x, 2, 6, 4, 2);
    }

    private static void elementNeedsShelf() {
        Edge.sentence("23", "IllegalArgumentException: no such SHELF");
        ChanceCourt x = new ChanceCourt();
        x.make(0, INTS, 1);
        x.make(7, LONGS, 1);
        for (int d : new int[] {-1, 8, MIN, MAX}) {
            Edge.met("element(" + d + ", 0)", Due.thrown(x, d, 0), 1);
            Edge.met("element(" + d + ", -1)", Due.thrown(x, d, -1), 1);
        }
        Edge.beside("element(0, 0)", Due.thrown(x, 0, 0), 0);
        Edge.beside("element(7, 0)", Due.thrown(x, 7, 0), 0);
    }

    private static void elementNeedsRow() {
        Edge.sentence("23", "IllegalStateException: nothing is held, it is no ROW");
        ChanceCourt x = full();
        Edge.met("nothing", Due.thrown(x, 5, 0), 2);
        Edge.met("an ACT", Due.thrown(x, 0, 0), 2);
        Edge.met("a NUMBER", Due.thrown(x, 1, 0), 2);
        Edge.beside("ints", Due.thrown(x, 2, 0), 0);
        Edge.beside("longs", Due.thrown(x, 3, 0), 0);
        x.keep(2, 0, 0, 0);
        x.keep(3, 1, 0, 0);
        Edge.met("nothing where ints were", Due.thrown(x, 2, 0), 2);
        Edge.met("an ACT where longs were", Due.thrown(x, 3, 0), 2);
        x.make(2, INTS, 3);
        x.keep(2, 2, 0, 0);
        Edge.met("a NUMBER where ints were", Due.thrown(x, 2, 0), 2);
    }

    private static void elementNeedsPlace() {
        Edge.sentence("23", "or has no such place");
        ChanceCourt x = full();
        Edge.beside("the first", x.element(2, 0), 6);
        Edge.beside("the last", x.element(2, 2), 2);
        Edge.beside("the last of longs", x.element(3, 5), 1);
        for (int i : new int[] {3, -1, 59, 60, MIN, MAX}) {
            Edge.met("element(2, " + i + ")", Due.thrown(x, 2, i), 2);
        }
        for (int i : new int[] {6, -1, 60, MIN, MAX}) {
            Edge.met("element(3, " + i + ")", Due.thrown(x, 3, i), 2);
        }
        x.make(3, LONGS, 1);
        Edge.met("a shorter ROW now", Due.thrown(x, 3, 1), 2);
        x.make(3, LONGS, 0);
        Edge.met("an empty ROW now", Due.thrown(x, 3, 0), 2);
    }

    private static void copyNeedsShelves() {
        Edge.sentence("24", "-1");
        ChanceCourt x = new ChanceCourt();
        x.make(0, INTS, 1);
        x.make(7, INTS, 1);
        for (int d : new int[] {-1, 8, MIN, MAX}) {
            Edge.met("copy(" + d + ", 0, 0, 0, 1)", x.copy(d, 0, 0, 0, 1), -1);
            Edge.met("copy(0, 0, " + d + ", 0, 1)", x.copy(0, 0, d, 0, 1), -1);
            Edge.met("both", x.copy(d, 0, d, 0, 1), -1);
        }
        Edge.beside("copy(0, 0, 7, 0, 1)", x.copy(0, 0, 7, 0, 1), 1);
        Edge.beside("copy(7, 0, 0, 0, 1)", x.copy(7, 0, 0, 0, 1), 1);
    }

    private static void copyNeedsSomething() {
        Edge.sentence("24", "-11: of either");
        ChanceCourt x = full();
        Edge.met("from nothing", x.copy(5, 0, 2, 0, 0), -11);
        Edge.met("to nothing", x.copy(2, 0, 5, 0, 0), -11);
        Edge.met("from nothing to nothing", x.copy(5, 0, 5, 0, 0), -11);
        x.make(5, INTS, 0);
        Edge.beside("from an empty ROW", x.copy(5, 0, 2, 0, 0), 0);
        Edge.beside("to an empty ROW", x.copy(2, 0, 5, 0, 0), 0);
        x.keep(5, 0, 0, 0);
        Edge.met("nothing again", x.copy(2, 0, 5, 0, 0), -11);
    }

    private static void copyNeedsRows() {
        Edge.sentence("24", "-12: one is no ROW");
        ChanceCourt x = full();
        for (int d = 0; d <= 1; d++) {
            for (int e = 0; e <= 3; e++) {
                Edge.met("copy(" + d + ", 0, " + e + ", 0, 0)", x.copy(d, 0, e, 0, 0), -12);
                Edge.met("copy(" + e + ", 0, " + d + ", 0, 0)", x.copy(e, 0, d, 0, 0), -12);
            }
        }
        Edge.beside("copy(2, 0, 2, 0, 0)", x.copy(2, 0, 2, 0, 0), 0);
        Edge.beside("copy(3, 0, 3, 0, 0)", x.copy(3, 0, 3, 0, 0), 0);
        Edge.met("the ACT is there still", x.weight(0), 19);
        Edge.met("the NUMBER is there still", x.weight(1), 2);
    }

    private static void copyNeedsOneKind() {
        Edge.sentence("24", "-12: or they are not of one kind");
        ChanceCourt x = full();
        Edge.met("ints to longs", x.copy(2, 0, 3, 0, 1), -12);
        Edge.met("longs to ints", x.copy(3, 0, 2, 0, 1), -12);
        Edge.met("none of them", x.copy(2, 0, 3, 0, 0), -12);
        row(true, x, 2, 6, 4, 2);
        row(true, x, 3, 2, 3, 1, 1, 0, 1);
        x.make(5, INTS, 1);
        x.make(6, LONGS, 1);
        Edge.beside("ints to ints", x.copy(2, 0, 5, 0, 1), 1);
        Edge.beside("longs to longs", x.copy(3, 0, 6, 0, 1), 1);
        row(false, x, 5, 6);
        row(false, x, 6, 2);
    }

    private static void copyBelowZero() {
        Edge.sentence("24", "-13: n, i or j is below 0");
        ChanceCourt x = full();
        x.make(5, INTS, 3);
        for (int low : new int[] {-1, -3, MIN, MIN + 1}) {
            Edge.met("n = " + low, x.copy(2, 0, 5, 0, low), -13);
            Edge.met("n = " + low + ", behind the first", x.copy(2, 3, 5, 3, low), -13);
            Edge.met("i = " + low, x.copy(2, low, 5, 0, 1), -13);
            Edge.met("j = " + low, x.copy(2, 0, 5, low, 1), -13);
            Edge.met("i = " + low + ", none", x.copy(2, low, 5, 0, 0), -13);
            Edge.met("j = " + low + ", none", x.copy(2, 0, 5, low, 0), -13);
            Edge.met("i = " + low + ", n that makes it up", x.copy(2, low, 5, 0, MAX), -13);
        }
        row(true, x, 5, 0, 0, 0);
        Edge.beside("all 0", x.copy(2, 0, 5, 0, 0), 0);
        row(false, x, 5, 0, 0, 0);
        Edge.beside("one", x.copy(2, 0, 5, 0, 1), 1);
        row(false, x, 5, 6, 0, 0);
    }

    private static void copyBeyondTheEnd() {
        Edge.sentence("24", "-13: or beyond either's end");
        ChanceCourt x = full();
        x.make(5, INTS, 5);
        x.make(6, INTS, 2);
        Edge.met("i + n is one beyond", x.copy(2, 1, 5, 0, 3), -13);
        Edge.met("i is the end", x.copy(2, 3, 5, 0, 1), -13);
        Edge.met("i is beyond the end, none", x.copy(2, 4, 5, 0, 0), -13);
        Edge.met("j + n is one beyond", x.copy(2, 0, 5, 3, 3), -13);
        Edge.met("j is the end", x.copy(2, 0, 5, 5, 1), -13);
        Edge.met("j is beyond the end, none", x.copy(2, 0, 5, 6, 0), -13);
        Edge.met("n is one more than the first has", x.copy(2, 0, 5, 0, 4), -13);
        Edge.met("n is one more than the second has", x.copy(2, 0, 6, 0, 3), -13);
        Edge.met("i + n wraps around", x.copy(2, MAX, 5, 0, 1), -13);
        Edge.met("j + n wraps around", x.copy(2, 0, 5, MAX, 1), -13);
        Edge.met("i + n wraps around to 0", x.copy(2, 1 << 31 - 1, 5, 0, 1 << 31 - 1), -13);
        Edge.met("n is the greatest int", x.copy(2, 1, 5, 1, MAX), -13);
        Edge.met("all are", x.copy(2, MAX, 5, MAX, MAX), -13);
        row(true, x, 5, 0, 0, 0, 0, 0);
        row(true, x, 6, 0, 0);
        Edge.beside("just to the first's end", x.copy(2, 1, 5, 0, 2), 2);
        row(false, x, 5, 4, 2, 0, 0, 0);
        Edge.beside("just to the second's end", x.copy(2, 0, 5, 2, 3), 3);
        row(false, x, 5, 4, 2, 6, 4, 2);
        Edge.beside("all that the second has", x.copy(2, 0, 6, 0, 2), 2);
        row(false, x, 6, 6, 4);
        Edge.beside("none at both ends", x.copy(2, 3, 5, 5, 0), 0);
        x.make(7, INTS, 60);
        Edge.beside("sixty", x.copy(7, 0, 7, 0, 60), 60);
        Edge.met("sixty from place 1", x.copy(7, 1, 7, 0, 60), -13);
    }

    private static void copyAsTheyWereBefore() {
        Edge.sentence("24", "(as they all were before)");
        ChanceCourt x = full();
        Edge.met("up by one", x.copy(3, 0, 3, 1, 5), 5);
        row(true, x, 3, 2, 2, 3, 1, 1, 0);
        x.keep(3, 4, 0, 0);
        Edge.met("down by one", x.copy(3, 1, 3, 0, 5), 5);
        row(true, x, 3, 3, 1, 1, 0, 1, 1);
        x.keep(3, 4, 0, 0);
        Edge.beside("onto itself", x.copy(3, 0, 3, 0, 6), 6);
        row(false, x, 3, 2, 3, 1, 1, 0, 1);
        Edge.beside("the halves apart", x.copy(3, 0, 3, 3, 3), 3);
        row(false, x, 3, 2, 3, 1, 2, 3, 1);
        x.make(5, LONGS, 2);
        x.copy(3, 0, 5, 0, 2);
        x.make(3, LONGS, 6);
        Edge.beside("the second keeps what came to it", x.element(5, 1), 3);
    }

    private static void weightNeedsShelf() {
        Edge.sentence("25", "-1");
        ChanceCourt x = coin();
        for (int d : new int[] {-1, 8, MIN, MAX}) {
            Edge.met("weight(" + d + ")", x.weight(d), -1);
        }
        x.keep(0, 1, 0, 0);
        x.keep(7, 1, 0, 0);
        Edge.beside("weight(0)", x.weight(0), 19);
        Edge.beside("weight(7)", x.weight(7), 19);
    }

    private static void weightNeedsSomething() {
        Edge.sentence("25", "-11");
        ChanceCourt x = full();
        Edge.met("nothing", x.weight(5), -11);
        Edge.beside("a NUMBER that is 0", x.weight(4), 0);
        x.keep(4, 0, 0, 0);
        Edge.met("nothing now", x.weight(4), -11);
    }

    private static void weightOfARow() {
        Edge.sentence("25", "-12 (a ROW)");
        ChanceCourt x = full();
        Edge.met("ints", x.weight(2), -12);
        Edge.met("longs", x.weight(3), -12);
        x.make(5, INTS, 0);
        x.make(6, LONGS, 0);
        Edge.met("no ints", x.weight(5), -12);
        Edge.met("no longs", x.weight(6), -12);
        Edge.beside("an ACT", x.weight(0), 19);
        Edge.beside("a NUMBER", x.weight(1), 2);
    }

    private static void weightOfActs() {
        Edge.sentence("25", "of an ACT its COST and 5 for each OUTCOME ..");
        int[] kinds = {PLAIN, SURE, FOE, STOP};
        long[][] want = {{0, 5}, {50, 55}, {7, 12}, {100, 110}};
        long[][] dear = {{1000, 1005}, {1050, 1055}, {1007, 1012}, {2100, 2110}};
        for (int i = 0; i < kinds.length; i++) {
            ChanceCourt x = Build.states(1);
            for (int a = 0; a < 4; a++) {
                x.act(0, kinds[i], a < 2 ? 0 : 1000);
                if (a % 2 == 1) {
                    x.outcome(0, a, 0, 1);
                }
                x.keep(a, 1, 0, a);
            }
            Edge.met("of kind " + kinds[i] + ", free, no OUTCOME", x.weight(0), want[i][0]);
            Edge.beside("of kind " + kinds[i] + ", free, one OUTCOME", x.weight(1), want[i][1]);
            Edge.met("of kind " + kinds[i] + ", dear, no OUTCOME", x.weight(2), dear[i][0]);
            Edge.beside("of kind " + kinds[i] + ", dear, one OUTCOME", x.weight(3), dear[i][1]);
        }
        for (int kind = PLAIN; kind <= FOE; kind += FOE) {
            ChanceCourt x = Build.states(4);
            Build.act(x, 0, kind, 1, 0, 3, 1, 3, 2, 3, 3, 3);
            x.keep(0, 1, 0, 0);
            Edge.met("of kind " + kind + ", four OUTCOMES", x.weight(0), kind == FOE ? 28 : 21);
        }
    }

    private static void weightOfNumbers() {
        Edge.sentence("25", "of a NUMBER its upper number");
        ChanceCourt x = Build.states(6);
        Build.act(x, 0, PLAIN, 0, 4, 12);
        for (int s = 1; s < 4; s++) {
            Build.act(x, s, PLAIN, 0, 4, 12 - 3 * s, 5, 3 * s);
        }
        x.mark(16);
        long[] want = {1, 3, 1, 1, 1, 0};
        for (int s = 0; s < 6; s++) {
            x.keep(s, 2, s, 0);
            if (want[s] == 0) {
                Edge.met("0 / 1", x.weight(s), 0);
            } else {
                Edge.beside("the NUMBER of " + s, x.weight(s), want[s]);
            }
        }
    }

    private static void ratioNeedsShelves() {
        Edge.sentence("26", "-1");
        ChanceCourt x = coin();
        x.keep(0, 2, 0, 0);
        x.keep(7, 2, 1, 0);
        for (int d : new int[] {-1, 8, MIN, MAX}) {
            Edge.met("ratio(" + d + ", 0)", x.ratio(d, 0), -1);
            Edge.met("ratio(0, " + d + ")", x.ratio(0, d), -1);
            Edge.met("both", x.ratio(d, d), -1);
        }
        Edge.beside("ratio(0, 7)", x.ratio(0, 7), 2);
        Edge.beside("ratio(7, 0)", x.ratio(7, 0), 0);
    }

    private static void ratioNeedsSomething() {
        Edge.sentence("26", "-11: of either");
        ChanceCourt x = full();
        Edge.met("of the first", x.ratio(5, 1), -11);
        Edge.met("of the second", x.ratio(1, 5), -11);
        Edge.met("of both", x.ratio(5, 5), -11);
        x.keep(5, 2, 1, 0);
        Edge.beside("once it is held", x.ratio(5, 1), 0);
        Edge.beside("once it is held", x.ratio(1, 5), 2);
    }

    private static void ratioNeedsNumbers() {
        Edge.sentence("26", "-12: one is no NUMBER");
        ChanceCourt x = full();
        for (int d : new int[] {0, 2, 3}) {
            Edge.met("ratio(" + d + ", 1)", x.ratio(d, 1), -12);
            Edge.met("ratio(1, " + d + ")", x.ratio(1, d), -12);
            Edge.met("ratio(" + d + ", " + d + ")", x.ratio(d, d), -12);
        }
        Edge.beside("ratio(1, 1)", x.ratio(1, 1), 1);
        x.keep(1, 0, 0, 0);
        x.keep(1, 1, 0, 0);
        Edge.met("an ACT where a NUMBER was", x.ratio(1, 1), -12);
    }

    private static void ratioByZero() {
        Edge.sentence("26", "-15: that on SHELF e is 0");
        ChanceCourt x = full();
        Edge.met("2 by 0", x.ratio(1, 4), -15);
        Edge.met("0 by 0", x.ratio(4, 4), -15);
        Edge.beside("0 by 2", x.ratio(4, 1), 0);
        x.keep(4, 2, 1, 0);
        Edge.beside("2 by 1", x.ratio(1, 4), 2);
    }

    private static void ratioIsCut() {
        Edge.sentence("26", "divided by (cut towards 0)");
        ChanceCourt x = Build.states(7);
        int[] parts = {11, 7, 5, 10, 1};
        for (int s = 0; s < 5; s++) {
            Build.act(x, s, PLAIN, 0, 5, parts[s], 6, 12 - parts[s]);
        }
        x.mark(32);
        for (int s = 0; s < 5; s++) {
            x.keep(s, 2, s, 0);
        }
        Edge.met("11 by 5", x.ratio(0, 2), 2);
        Edge.met("7 by 5", x.ratio(1, 2), 1);
        Edge.met("7 by 11", x.ratio(1, 0), 0);
        Edge.beside("5 by 5, of 5/12 and of 10/12 in lowest terms", x.ratio(2, 3), 1);
        Edge.beside("11 by 1", x.ratio(0, 4), 11);
        Edge.beside("7 by 7", x.ratio(1, 1), 1);
    }
}
