/** Promises 21 to 26: SHELVES and what is done with them. */
public final class ShelfTest {
    private static final int MIN = Integer.MIN_VALUE;
    private static final int MAX = Integer.MAX_VALUE;

    public static void main(String[] args) {
        keepCalls();
        keptThingsStay();
        keepRefusals();
        makeAndElement();
        copyCalls();
        weightCalls();
        ratioCalls();
        Due.end();
    }

    /** MOST of STATE 0 is 2/3, of 1 (MARKED) 1, of 2 (an END) 0, of 3 (FOE) 1/4. */
    private static ChanceCourt court() {
        ChanceCourt x = Build.states(4);
        Build.act(x, 0, 0, 4, 0, 6, 1, 4, 2, 2);
        Build.act(x, 3, 2, 9, 1, 12);
        Build.act(x, 3, 2, 9, 1, 3, 2, 9);
        Due.is("mark", x.mark(2), 1);
        return x;
    }

    private static void keepCalls() {
        ChanceCourt x = court();
        Due.is("keep", x.keep(0, 3, 0, 0), 0);
        Due.is("element", x.element(0, 0), 6);
        Due.is("element", x.element(0, 1), 4);
        Due.is("element", x.element(0, 2), 2);
        Due.elementThrows(x, 0, 3, 2);
        Due.is("keep", x.keep(7, 4, MIN, MAX), 0);
        long[] row = {2, 3, 1, 1, 0, 1, 1, 4};
        for (int i = 0; i < row.length; i++) {
            Due.is("element(7, " + i + ")", x.element(7, i), row[i]);
        }
        Due.elementThrows(x, 7, row.length, 2);
        Due.is("keep", x.keep(1, 2, 0, MIN), 0);
        Due.is("weight", x.weight(1), 2);
        Due.is("keep", x.keep(1, 1, 3, 1), 0);
        Due.is("weight", x.weight(1), 26);
        Due.is("keep nothing", x.keep(1, 0, MAX, MIN), 0);
        Due.is("weight", x.weight(1), -11);
        Due.is("keep nothing on nothing", x.keep(1, 0, 0, 0), 0);
    }

    private static void keptThingsStay() {
        ChanceCourt x = court();
        x.keep(0, 1, 0, 0);
        x.keep(1, 2, 0, 0);
        x.keep(2, 3, 0, 0);
        x.keep(3, 4, 0, 0);
        x.drop(0);
        Build.act(x, 0, 1, 100, 1, 12);
        x.mark(0);
        Due.is("the act as it was", x.weight(0), 19);
        Due.is("the number as it was", x.weight(1), 2);
        Due.is("the row as it was", x.element(2, 2), 2);
        Due.is("the row as it was", x.element(3, 1), 3);
        ChanceCourt y = Build.states(2);
        y.act(0, 0, 1);
        y.keep(0, 1, 0, 0);
        y.keep(1, 3, 0, 0);
        Build.act(y, 1, 0, 0);
        y.outcome(0, 0, 1, 12);
        Due.is("the act as it was", y.weight(0), 1);
        Due.elementThrows(y, 1, 0, 2);
        ChanceCourt z = new ChanceCourt();
        Due.is("a row of no states", z.keep(0, 4, 0, 0), 0);
        Due.is("weight", z.weight(0), -12);
        Due.elementThrows(z, 0, 0, 2);
    }

    private static void keepRefusals() {
        ChanceCourt x = court();
        x.keep(0, 1, 0, 0);
        Due.is("shelf", x.keep(8, 0, 0, 0), -1);
        Due.is("shelf", x.keep(-1, 0, 0, 0), -1);
        Due.is("what", x.keep(0, 5, 0, 0), -1);
        Due.is("what", x.keep(0, -1, 0, 0), -1);
        Due.is("no such act", x.keep(0, 1, 0, 1), -1);
        Due.is("no such act", x.keep(0, 1, 0, -1), -1);
        Due.is("no such act", x.keep(0, 3, 1, 0), -1);
        Due.is("no such state", x.keep(0, 1, 4, 0), -1);
        Due.is("no such state", x.keep(0, 2, 4, 0), -1);
        Due.is("no such state", x.keep(0, 2, -1, 0), -1);
        x.act(1, 0, 0);
        Due.is("not whole", x.keep(0, 2, 0, 0), -2);
        Due.is("not whole, no such state", x.keep(0, 2, 4, 0), -1);
        Due.is("not whole", x.keep(0, 4, 0, 0), -2);
        Due.is("a refused call changes nothing", x.weight(0), 19);
        Due.is("not whole is no matter here", x.keep(0, 1, 1, 0), 0);
        Due.is("weight", x.weight(0), 0);
        Due.is("not whole is no matter here", x.keep(0, 3, 0, 0), 0);
        ChanceCourt y = Build.states(8);
        for (int s = 2; s < 8; s++) {
            Build.act(y, s, 0, 0, 0, s, 1, 12 - s);
        }
        y.mark(1);
        Due.is("can't be told", y.keep(0, 2, 0, 0), -3);
        Due.is("can't be told", y.keep(0, 4, 0, 0), -3);
        Due.is("weight", y.weight(0), -11);
    }

    private static void makeAndElement() {
        ChanceCourt x = new ChanceCourt();
        Due.is("make", x.make(0, 3, 0), 0);
        Due.elementThrows(x, 0, 0, 2);
        Due.is("make", x.make(0, 4, 60), 0);
        Due.is("element", x.element(0, 0), 0);
        Due.is("element", x.element(0, 59), 0);
        Due.elementThrows(x, 0, 60, 2);
        Due.elementThrows(x, 0, -1, 2);
        Due.elementThrows(x, 0, MIN, 2);
        Due.elementThrows(x, 0, MAX, 2);
        Due.elementThrows(x, 8, 0, 1);
        Due.elementThrows(x, -1, -1, 1);
        Due.elementThrows(x, MAX, 0, 1);
        Due.elementThrows(x, 1, 0, 2);
        Due.is("n", x.make(0, 3, 61), -1);
        Due.is("n", x.make(0, 3, MAX), -1);
        Due.is("below 0", x.make(0, 3, -1), -14);
        Due.is("below 0", x.make(0, 4, MIN), -14);
        Due.is("what", x.make(0, 2, 1), -1);
        Due.is("what", x.make(0, 5, -1), -1);
        Due.is("shelf", x.make(8, 3, -1), -1);
        Due.is("shelf", x.make(-1, 3, 1), -1);
        Due.is("a refused call changes nothing", x.element(0, 59), 0);
        ChanceCourt y = court();
        y.keep(0, 3, 0, 0);
        Due.is("make", y.make(0, 3, 3), 0);
        Due.is("made anew", y.element(0, 0), 0);
        y.keep(1, 1, 0, 0);
        Due.elementThrows(y, 1, 0, 2);
        y.keep(1, 2, 0, 0);
        Due.elementThrows(y, 1, 0, 2);
        y.keep(1, 0, 0, 0);
        Due.elementThrows(y, 1, 0, 2);
    }

    private static void copyCalls() {
        ChanceCourt x = court();
        x.keep(0, 3, 0, 0);
        x.make(1, 3, 5);
        Due.is("copy", x.copy(0, 0, 1, 1, 3), 3);
        rowIs(x, 1, 0, 6, 4, 2, 0);
        Due.is("copy within", x.copy(1, 0, 1, 1, 4), 4);
        rowIs(x, 1, 0, 0, 6, 4, 2);
        Due.is("copy within", x.copy(1, 1, 1, 0, 4), 4);
        rowIs(x, 1, 0, 6, 4, 2, 2);
        Due.is("none", x.copy(0, 3, 1, 5, 0), 0);
        Due.is("none, beyond", x.copy(0, 4, 1, 0, 0), -13);
        Due.is("none, beyond", x.copy(0, 0, 1, 6, 0), -13);
        Due.is("beyond", x.copy(0, 1, 1, 0, 3), -13);
        Due.is("beyond", x.copy(0, 0, 1, 3, 3), -13);
        Due.is("beyond", x.copy(0, 0, 1, 0, MAX), -13);
        Due.is("beyond", x.copy(0, MAX, 1, MAX, MAX), -13);
        Due.is("beyond", x.copy(0, MAX, 1, 0, 1), -13);
        Due.is("below", x.copy(0, -1, 1, 0, 1), -13);
        Due.is("below", x.copy(0, 0, 1, -1, 1), -13);
        Due.is("below", x.copy(0, 0, 1, 0, -1), -13);
        Due.is("below", x.copy(0, MIN, 1, MIN, MIN), -13);
        rowIs(x, 1, 0, 6, 4, 2, 2);
        x.keep(2, 4, 0, 0);
        x.make(3, 4, 2);
        Due.is("longs", x.copy(2, 6, 3, 0, 2), 2);
        rowIs(x, 3, 1, 4);
        Due.is("ints and longs", x.copy(0, 0, 3, 0, 1), -12);
        Due.is("longs and ints", x.copy(3, 0, 0, -1, 1), -12);
        x.keep(4, 1, 0, 0);
        x.keep(5, 2, 0, 0);
        Due.is("an act", x.copy(4, 0, 0, 0, 0), -12);
        Due.is("an act", x.copy(0, 0, 4, 0, 0), -12);
        Due.is("two acts", x.copy(4, 0, 4, 0, 0), -12);
        Due.is("a number", x.copy(5, 0, 5, 0, 0), -12);
        Due.is("nothing", x.copy(6, 0, 4, 0, 0), -11);
        Due.is("nothing", x.copy(4, 0, 6, 0, -1), -11);
        Due.is("shelf", x.copy(6, 0, 8, 0, -1), -1);
        Due.is("shelf", x.copy(-1, 0, 6, 0, -1), -1);
    }

    private static void rowIs(ChanceCourt x, int d, long... row) {
        for (int i = 0; i < row.length; i++) {
            Due.is("element(" + d + ", " + i + ")", x.element(d, i), row[i]);
        }
        Due.elementThrows(x, d, row.length, 2);
    }

    private static void weightCalls() {
        ChanceCourt x = Build.states(4);
        Build.act(x, 0, 0, 1000, 0, 3, 1, 3, 2, 3, 3, 3);
        Build.act(x, 0, 1, 1000, 0, 3);
        Build.act(x, 0, 3, 1000);
        Build.act(x, 0, 3, 0, 0, 12);
        Build.act(x, 1, 2, 0, 0, 3, 1, 3);
        long[] want = {1020, 1055, 2100, 110};
        for (int a = 0; a < 4; a++) {
            x.keep(a, 1, 0, a);
            Due.is("weight", x.weight(a), want[a]);
        }
        x.keep(0, 1, 1, 0);
        Due.is("weight of a foe act", x.weight(0), 17);
        x.make(0, 3, 0);
        Due.is("weight of a row", x.weight(0), -12);
        x.make(0, 4, 1);
        Due.is("weight of a row", x.weight(0), -12);
        Due.is("weight", x.weight(5), -11);
        Due.is("weight", x.weight(8), -1);
        Due.is("weight", x.weight(-1), -1);
    }

    private static void ratioCalls() {
        ChanceCourt x = Build.states(6);
        Build.act(x, 0, 0, 0, 1, 11, 2, 1);
        Build.act(x, 3, 0, 0, 1, 5, 2, 7);
        Build.act(x, 4, 0, 0, 1, 3, 2, 9);
        x.mark(2);
        x.keep(0, 2, 0, 0);
        x.keep(1, 2, 3, 0);
        x.keep(2, 2, 2, 0);
        x.keep(3, 2, 4, 0);
        Due.is("11 by 5", x.ratio(0, 1), 2);
        Due.is("5 by 11", x.ratio(1, 0), 0);
        Due.is("5 by 1: upper numbers in lowest terms", x.ratio(1, 3), 5);
        Due.is("by 0", x.ratio(0, 2), -15);
        Due.is("0 by 11", x.ratio(2, 0), 0);
        Due.is("0 by 0", x.ratio(2, 2), -15);
        x.keep(4, 1, 0, 0);
        x.make(5, 4, 2);
        Due.is("an act", x.ratio(4, 0), -12);
        Due.is("an act by 0", x.ratio(4, 2), -12);
        Due.is("a row", x.ratio(0, 5), -12);
        Due.is("nothing", x.ratio(6, 5), -11);
        Due.is("nothing", x.ratio(5, 6), -11);
        Due.is("shelf", x.ratio(6, 8), -1);
        Due.is("shelf", x.ratio(-1, 6), -1);
    }
}
