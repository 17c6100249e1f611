import java.util.function.Supplier;
import java.util.function.ToLongFunction;

/**
 * "Answers of several refusals are the first one here", call by call and pair by pair, and
 * "A refused call changes nothing": an object that refused looks like one that was never asked.
 */
public final class RefusalTest {
    private static final int PLAIN = 0;
    private static final int SURE = 1;
    private static final int FOE = 2;
    private static final int STOP = 3;

    /** The end of rows of 3 and 6 elements lies below it. */
    private static final int FAR = 60;

    public static void main(String[] args) {
        stateAndAct();
        outcome();
        dropAndMark();
        valueCalls();
        choiceCalls();
        distanceCalls();
        sumCalls();
        withinAndBound();
        setsAndReached();
        costCalls();
        holeTwinCountLook();
        keepCalls();
        makeAndElement();
        copyCalls();
        weightAndRatio();
        Due.end();
    }

    /** WHOLE: 0 is tried, 1 MARKED, 2 an END; SHELF 0 an ACT, 1 a NUMBER, 2 ints, 3 longs, 4 the NUMBER 0. */
    private static ChanceCourt coin() {
        ChanceCourt x = Build.states(3);
        Build.act(x, 0, PLAIN, 4, 0, 6, 1, 4, 2, 2);
        x.mark(2);
        for (int what = 1; what <= 4; what++) {
            x.keep(what - 1, what, 0, 0);
        }
        x.keep(4, 2, 2, 0);
        return x;
    }

    /** As coin(), but an ACT of the END lacks a twelfth. */
    private static ChanceCourt lacking() {
        ChanceCourt x = coin();
        x.act(2, PLAIN, 1);
        x.outcome(2, 0, 2, 11);
        return x;
    }

    /** STATES 0 .. 5 are between 0 and 1, 6 is MARKED, 7 an END. */
    private static ChanceCourt six() {
        ChanceCourt x = Build.states(8);
        for (int s = 0; s < 6; s++) {
            Build.act(x, s, PLAIN, 0, 6, 1 + s, 7, 11 - s);
        }
        x.mark(64);
        return x;
    }

    private static ChanceCourt sixLacking() {
        ChanceCourt x = six();
        x.act(7, PLAIN, 0);
        return x;
    }

    /** STATE 0 has four ACTS, 1 four FOE ACTS, 2 a full PLAIN, a SURE and a STOP one, 3 a FOE one. */
    private static ChanceCourt crowded() {
        ChanceCourt x = Build.states(6);
        for (int a = 0; a < 4; a++) {
            Build.act(x, 0, PLAIN, a, 1, 12);
            Build.act(x, 1, FOE, a, 0, 12);
        }
        Build.act(x, 2, PLAIN, 0, 0, 3, 1, 3, 2, 3, 3, 2);
        Build.act(x, 2, SURE, 0, 0, 11);
        Build.act(x, 2, STOP, 0, 2, 11);
        Build.act(x, 3, FOE, 0, 3, 11);
        x.mark(33);
        return x;
    }

    /** Six are SURE and not MARKED, 7 is an END. */
    private static ChanceCourt sixSure() {
        ChanceCourt x = Build.states(8);
        for (int s = 0; s < 6; s++) {
            Build.act(x, s, SURE, 1, 6, 12);
        }
        x.mark(64);
        return x;
    }

    private static ChanceCourt sixSureLacking() {
        ChanceCourt x = sixSure();
        x.act(7, PLAIN, 0);
        return x;
    }

    private static ChanceCourt withFoe() {
        ChanceCourt x = coin();
        Build.act(x, 2, FOE, 0, 2, 12);
        return x;
    }

    private static ChanceCourt ten() {
        ChanceCourt x = Build.states(10);
        x.mark(513);
        return x;
    }

    private static void refused(String call, Supplier<ChanceCourt> court, ToLongFunction<ChanceCourt> ask, long want) {
        ChanceCourt asked = court.get();
        Due.is(call, ask.applyAsLong(asked), want);
        Due.is(call + ", once more", ask.applyAsLong(asked), want);
        String seen = Picture.of(asked);
        String due = Picture.of(court.get());
        Due.isTrue(call + " changes nothing", seen.equals(due));
    }

    private static void stateAndAct() {
        refused("state: 10", RefusalTest::ten, x -> x.state(), -2);
        refused("act: STATE", RefusalTest::crowded, x -> x.act(6, PLAIN, 0), -1);
        refused("act: KIND", RefusalTest::crowded, x -> x.act(5, 4, 0), -1);
        refused("act: COST", RefusalTest::crowded, x -> x.act(5, PLAIN, 1001), -1);
        refused("act: 4", RefusalTest::crowded, x -> x.act(0, PLAIN, 0), -2);
        refused("act: other side", RefusalTest::crowded, x -> x.act(3, PLAIN, 0), -3);
        refused("act: COST, 4", RefusalTest::crowded, x -> x.act(0, PLAIN, -1), -1);
        refused("act: KIND, 4", RefusalTest::crowded, x -> x.act(0, -1, 0), -1);
        refused("act: COST, other side", RefusalTest::crowded, x -> x.act(3, PLAIN, 1001), -1);
        refused("act: 4, other side", RefusalTest::crowded, x -> x.act(0, FOE, 0), -2);
        refused("act: 4, other side", RefusalTest::crowded, x -> x.act(1, STOP, 0), -2);
        refused("act: COST, 4, other side", RefusalTest::crowded, x -> x.act(1, STOP, -1), -1);
    }

    private static void outcome() {
        refused("outcome: STATE", RefusalTest::crowded, x -> x.outcome(6, 0, 0, 1), -1);
        refused("outcome: ACT", RefusalTest::crowded, x -> x.outcome(2, 3, 4, 1), -1);
        refused("outcome: to", RefusalTest::crowded, x -> x.outcome(3, 0, 6, 1), -1);
        refused("outcome: PART", RefusalTest::crowded, x -> x.outcome(3, 0, 4, 0), -1);
        refused("outcome: 4", RefusalTest::crowded, x -> x.outcome(2, 0, 4, 1), -2);
        refused("outcome: one", RefusalTest::crowded, x -> x.outcome(2, 1, 4, 1), -2);
        refused("outcome: more than twelve", RefusalTest::crowded, x -> x.outcome(3, 0, 4, 2), -3);
        refused("outcome: has it", RefusalTest::crowded, x -> x.outcome(3, 0, 3, 1), -3);
        refused("outcome: has it, more than twelve", RefusalTest::crowded, x -> x.outcome(3, 0, 3, 2), -3);
        refused("outcome: to, 4", RefusalTest::crowded, x -> x.outcome(2, 0, 6, 1), -1);
        refused("outcome: PART, 4", RefusalTest::crowded, x -> x.outcome(2, 0, 4, 13), -1);
        refused("outcome: PART, one, has it", RefusalTest::crowded, x -> x.outcome(2, 1, 0, 0), -1);
        refused("outcome: a STOP elsewhere, one", RefusalTest::crowded, x -> x.outcome(2, 2, 3, 1), -1);
        refused("outcome: a STOP elsewhere, more", RefusalTest::crowded, x -> x.outcome(2, 2, 3, 12), -1);
        refused("outcome: PART, has it", RefusalTest::crowded, x -> x.outcome(3, 0, 3, 13), -1);
        refused("outcome: 4, has it", RefusalTest::crowded, x -> x.outcome(2, 0, 3, 1), -2);
        refused("outcome: 4, more than twelve", RefusalTest::crowded, x -> x.outcome(2, 0, 4, 2), -2);
        refused("outcome: one, has it, more", RefusalTest::crowded, x -> x.outcome(2, 2, 2, 2), -2);
    }

    private static void dropAndMark() {
        refused("drop: STATE", RefusalTest::crowded, x -> x.drop(6), -1);
        refused("drop: none", RefusalTest::crowded, x -> x.drop(5), -2);
        refused("drop: STATE, WHOLE", RefusalTest::coin, x -> x.drop(3), -1);
        refused("drop: none, WHOLE", RefusalTest::coin, x -> x.drop(2), -2);
        refused("mark: STATES that aren't there", RefusalTest::crowded, x -> x.mark(64), -1);
        refused("mark: some are, some aren't", RefusalTest::crowded, x -> x.mark(127), -1);
        refused("mark: other bits", RefusalTest::crowded, x -> x.mark(1025), -1);
        refused("mark: other bits, WHOLE", RefusalTest::coin, x -> x.mark(-2147483647), -1);
        refused("mark: other bits, ten", RefusalTest::ten, x -> x.mark(1025), -1);
    }

    private static void valueCalls() {
        for (boolean least : new boolean[] {false, true}) {
            refused("value: STATE", RefusalTest::coin, x -> x.value(3, least, 0), -1);
            refused("value: what", RefusalTest::coin, x -> x.value(0, least, 2), -1);
            refused("value: not WHOLE", RefusalTest::lacking, x -> x.value(0, least, 0), -2);
            refused("value: six", RefusalTest::six, x -> x.value(0, least, 0), -3);
            refused("value: STATE, not WHOLE", RefusalTest::lacking, x -> x.value(3, least, 0), -1);
            refused("value: what, not WHOLE", RefusalTest::lacking, x -> x.value(0, least, -1), -1);
            refused("value: STATE, six", RefusalTest::six, x -> x.value(8, least, 0), -1);
            refused("value: what, six", RefusalTest::six, x -> x.value(0, least, 2), -1);
            refused("value: not WHOLE, six", RefusalTest::sixLacking, x -> x.value(0, least, 0), -2);
        }
    }

    private static void choiceCalls() {
        refused("choice: STATE", RefusalTest::coin, x -> x.choice(3), -1);
        refused("choice: END", RefusalTest::coin, x -> x.choice(1), -1);
        refused("choice: not WHOLE", RefusalTest::lacking, x -> x.choice(0), -2);
        refused("choice: six", RefusalTest::six, x -> x.choice(0), -3);
        refused("choice: END, not WHOLE", RefusalTest::lacking, x -> x.choice(1), -1);
        refused("choice: END, six", RefusalTest::six, x -> x.choice(6), -1);
        refused("choice: STATE, not WHOLE, six", RefusalTest::sixLacking, x -> x.choice(-1), -1);
        refused("choice: not WHOLE, six", RefusalTest::sixLacking, x -> x.choice(7), -2);
    }

    private static void distanceCalls() {
        refused("distance: STATE", RefusalTest::coin, x -> x.distance(3), -1);
        refused("distance: not WHOLE", RefusalTest::lacking, x -> x.distance(0), -2);
        refused("distance: six", RefusalTest::six, x -> x.distance(0), -3);
        refused("distance: LOST", RefusalTest::coin, x -> x.distance(2), -4);
        refused("distance: STATE, not WHOLE", RefusalTest::lacking, x -> x.distance(3), -1);
        refused("distance: STATE, six", RefusalTest::six, x -> x.distance(8), -1);
        refused("distance: not WHOLE, six", RefusalTest::sixLacking, x -> x.distance(0), -2);
        refused("distance: not WHOLE, LOST", RefusalTest::lacking, x -> x.distance(2), -2);
        refused("distance: six, LOST", RefusalTest::six, x -> x.distance(7), -3);
        refused("distance: not WHOLE, six, LOST", RefusalTest::sixLacking, x -> x.distance(7), -2);
    }

    private static void sumCalls() {
        refused("sum: STATE", RefusalTest::coin, x -> x.sum(3, 0, 0), -1);
        refused("sum: ACT", RefusalTest::coin, x -> x.sum(0, 1, 0), -1);
        refused("sum: what", RefusalTest::coin, x -> x.sum(0, 0, 2), -1);
        refused("sum: not WHOLE", RefusalTest::lacking, x -> x.sum(0, 0, 0), -2);
        refused("sum: six", RefusalTest::six, x -> x.sum(0, 0, 0), -3);
        refused("sum: ACT, not WHOLE", RefusalTest::lacking, x -> x.sum(0, 1, 0), -1);
        refused("sum: what, not WHOLE", RefusalTest::lacking, x -> x.sum(0, 0, 2), -1);
        refused("sum: ACT, six", RefusalTest::six, x -> x.sum(7, 0, 0), -1);
        refused("sum: what, six", RefusalTest::six, x -> x.sum(0, 0, -1), -1);
        refused("sum: not WHOLE, six", RefusalTest::sixLacking, x -> x.sum(0, 0, 0), -2);
    }

    private static void withinAndBound() {
        for (boolean least : new boolean[] {false, true}) {
            refused("within: STATE", RefusalTest::coin, x -> x.within(3, 1, least, 0), -1);
            refused("within: k", RefusalTest::coin, x -> x.within(0, 11, least, 0), -1);
            refused("within: what", RefusalTest::coin, x -> x.within(0, 1, least, 2), -1);
            refused("within: not WHOLE", RefusalTest::lacking, x -> x.within(1, 0, least, 0), -2);
            refused("within: STATE, not WHOLE", RefusalTest::lacking, x -> x.within(-1, 1, least, 0), -1);
            refused("within: k, not WHOLE", RefusalTest::lacking, x -> x.within(0, -1, least, 0), -1);
            refused("within: what, not WHOLE", RefusalTest::lacking, x -> x.within(0, 1, least, -1), -1);
        }
        refused("bound: STATE", RefusalTest::coin, x -> x.bound(3, 1), -1);
        refused("bound: p", RefusalTest::coin, x -> x.bound(0, 13), -1);
        refused("bound: not WHOLE", RefusalTest::lacking, x -> x.bound(1, 12), -2);
        refused("bound: none", RefusalTest::coin, x -> x.bound(2, 1), -3);
        refused("bound: p, not WHOLE", RefusalTest::lacking, x -> x.bound(0, -1), -1);
        refused("bound: STATE, not WHOLE", RefusalTest::lacking, x -> x.bound(3, 1), -1);
        refused("bound: p, none", RefusalTest::coin, x -> x.bound(2, 13), -1);
        refused("bound: not WHOLE, none", RefusalTest::lacking, x -> x.bound(2, 1), -2);
    }

    private static void setsAndReached() {
        refused("sets: what", RefusalTest::coin, x -> x.sets(4), -1);
        refused("sets: not WHOLE", RefusalTest::lacking, x -> x.sets(3), -2);
        refused("sets: what, not WHOLE", RefusalTest::lacking, x -> x.sets(-1), -1);
        refused("reached: STATE", RefusalTest::coin, x -> x.reached(3), -1);
        refused("reached: STATE, not WHOLE", RefusalTest::lacking, x -> x.reached(3), -1);
    }

    private static void costCalls() {
        refused("cost: STATE", RefusalTest::coin, x -> x.cost(3, 0), -1);
        refused("cost: what", RefusalTest::coin, x -> x.cost(1, 2), -1);
        refused("cost: not WHOLE", RefusalTest::lacking, x -> x.cost(1, 0), -2);
        refused("cost: FOE ACTS", RefusalTest::withFoe, x -> x.cost(1, 0), -3);
        refused("cost: six SURE ones", RefusalTest::sixSure, x -> x.cost(6, 0), -3);
        refused("cost: not SURE", RefusalTest::coin, x -> x.cost(0, 0), -4);
        refused("cost: STATE, not WHOLE", RefusalTest::lacking, x -> x.cost(3, 0), -1);
        refused("cost: what, FOE ACTS", RefusalTest::withFoe, x -> x.cost(1, -1), -1);
        refused("cost: STATE, six SURE ones", RefusalTest::sixSure, x -> x.cost(8, 0), -1);
        refused("cost: what, not SURE", RefusalTest::coin, x -> x.cost(0, 2), -1);
        refused("cost: not WHOLE, FOE ACTS", RefusalTest::crowded, x -> x.cost(0, 0), -2);
        refused("cost: not WHOLE, six SURE ones", RefusalTest::sixSureLacking, x -> x.cost(0, 0), -2);
        refused("cost: not WHOLE, not SURE", RefusalTest::lacking, x -> x.cost(0, 0), -2);
        refused("cost: FOE ACTS, not SURE", RefusalTest::withFoe, x -> x.cost(0, 0), -3);
        refused("cost: six SURE ones, not SURE", RefusalTest::sixSure, x -> x.cost(7, 0), -3);
    }

    private static void holeTwinCountLook() {
        refused("hole: what", RefusalTest::coin, x -> x.hole(0, 3), -1);
        refused("hole: not WHOLE", RefusalTest::lacking, x -> x.hole(0, 0), -2);
        refused("hole: no such HOLE", RefusalTest::coin, x -> x.hole(0, 1), -1);
        refused("hole: what, not WHOLE", RefusalTest::lacking, x -> x.hole(0, -1), -1);
        refused("hole: not WHOLE, no such HOLE", RefusalTest::lacking, x -> x.hole(9, 2), -2);
        refused("twin: STATE", RefusalTest::coin, x -> x.twin(3), -1);
        refused("twin: not WHOLE", RefusalTest::lacking, x -> x.twin(0), -2);
        refused("twin: STATE, not WHOLE", RefusalTest::lacking, x -> x.twin(3), -1);
        refused("count: what", RefusalTest::coin, x -> x.count(5), -1);
        refused("count: not WHOLE", RefusalTest::lacking, x -> x.count(4), -2);
        refused("count: what, not WHOLE", RefusalTest::lacking, x -> x.count(5), -1);
        refused("look: ACT", RefusalTest::coin, x -> x.look(0, 1, 0), -1);
        refused("look: what", RefusalTest::coin, x -> x.look(0, 0, 11), -1);
        refused("look: no OUTCOME", RefusalTest::coin, x -> x.look(0, 0, 6), -2);
        refused("look: ACT, no OUTCOME", RefusalTest::coin, x -> x.look(0, 1, 6), -1);
    }

    private static void keepCalls() {
        refused("keep: SHELF", RefusalTest::coin, x -> x.keep(8, 1, 0, 0), -1);
        refused("keep: what", RefusalTest::coin, x -> x.keep(0, 5, 0, 0), -1);
        for (int d = 0; d < 6; d++) {
            int shelf = d;
            refused("keep: ACT", RefusalTest::coin, x -> x.keep(shelf, 1, 0, 1), -1);
            refused("keep: STATE", RefusalTest::coin, x -> x.keep(shelf, 2, 3, 0), -1);
            refused("keep: ACT", RefusalTest::coin, x -> x.keep(shelf, 3, 1, 0), -1);
            refused("keep: not WHOLE", RefusalTest::lacking, x -> x.keep(shelf, 2, 0, 0), -2);
            refused("keep: not WHOLE", RefusalTest::lacking, x -> x.keep(shelf, 4, 0, 0), -2);
        }
        refused("keep: six", RefusalTest::six, x -> x.keep(0, 2, 0, 0), -3);
        refused("keep: six", RefusalTest::six, x -> x.keep(0, 4, 0, 0), -3);
        refused("keep: SHELF, not WHOLE", RefusalTest::lacking, x -> x.keep(-1, 4, 0, 0), -1);
        refused("keep: STATE, not WHOLE", RefusalTest::lacking, x -> x.keep(0, 2, 3, 0), -1);
        refused("keep: SHELF, six", RefusalTest::six, x -> x.keep(8, 4, 0, 0), -1);
        refused("keep: STATE, six", RefusalTest::six, x -> x.keep(0, 2, 8, 0), -1);
        refused("keep: not WHOLE, six", RefusalTest::sixLacking, x -> x.keep(0, 2, 0, 0), -2);
        refused("keep: not WHOLE, six", RefusalTest::sixLacking, x -> x.keep(0, 4, 0, 0), -2);
        refused("keep: STATE, not WHOLE, six", RefusalTest::sixLacking, x -> x.keep(0, 2, 8, 0), -1);
    }

    private static void makeAndElement() {
        for (int d = 0; d < 6; d++) {
            int shelf = d;
            refused("make: what", RefusalTest::coin, x -> x.make(shelf, 5, 1), -1);
            refused("make: n", RefusalTest::coin, x -> x.make(shelf, 3, 61), -1);
            refused("make: below 0", RefusalTest::coin, x -> x.make(shelf, 4, -1), -14);
            refused("make: what, below 0", RefusalTest::coin, x -> x.make(shelf, 2, -1), -1);
            refused("element: no place", RefusalTest::coin, x -> Due.thrown(x, shelf, -1), 2);
        }
        refused("make: SHELF", RefusalTest::coin, x -> x.make(8, 3, 1), -1);
        refused("make: SHELF, below 0", RefusalTest::coin, x -> x.make(-1, 3, -1), -1);
        refused("make: SHELF, what, n", RefusalTest::coin, x -> x.make(8, 5, 61), -1);
        refused("element: no SHELF", RefusalTest::coin, x -> Due.thrown(x, 8, 0), 1);
        refused("element: no SHELF, no place", RefusalTest::coin, x -> Due.thrown(x, -1, -1), 1);
    }

    private static void copyCalls() {
        refused("copy: first SHELF", RefusalTest::coin, x -> x.copy(8, 0, 2, 0, 1), -1);
        refused("copy: second SHELF", RefusalTest::coin, x -> x.copy(2, 0, -1, 0, 1), -1);
        refused("copy: from nothing", RefusalTest::coin, x -> x.copy(5, 0, 2, 0, 1), -11);
        refused("copy: to nothing", RefusalTest::coin, x -> x.copy(2, 0, 5, 0, 1), -11);
        refused("copy: from an ACT", RefusalTest::coin, x -> x.copy(0, 0, 2, 0, 1), -12);
        refused("copy: to a NUMBER", RefusalTest::coin, x -> x.copy(2, 0, 1, 0, 1), -12);
        refused("copy: ints to longs", RefusalTest::coin, x -> x.copy(2, 0, 3, 0, 1), -12);
        refused("copy: below 0", RefusalTest::coin, x -> x.copy(2, 1, 2, 0, -1), -13);
        refused("copy: beyond", RefusalTest::coin, x -> x.copy(2, 1, 2, 0, 3), -13);
        refused("copy: beyond, in part", RefusalTest::coin, x -> x.copy(3, 0, 3, 5, 2), -13);
        refused("copy: SHELF, nothing", RefusalTest::coin, x -> x.copy(5, 0, 8, 0, 1), -1);
        refused("copy: SHELF, nothing", RefusalTest::coin, x -> x.copy(8, 0, 5, 0, 1), -1);
        refused("copy: SHELF, no ROW", RefusalTest::coin, x -> x.copy(0, 0, 8, 0, 1), -1);
        refused("copy: SHELF, no ROW", RefusalTest::coin, x -> x.copy(8, 0, 0, 0, 1), -1);
        refused("copy: SHELF, beyond", RefusalTest::coin, x -> x.copy(2, FAR, 8, 0, 1), -1);
        refused("copy: SHELF, below 0", RefusalTest::coin, x -> x.copy(8, 0, 2, -1, -1), -1);
        refused("copy: nothing, no ROW", RefusalTest::coin, x -> x.copy(5, 0, 0, 0, 1), -11);
        refused("copy: no ROW, nothing", RefusalTest::coin, x -> x.copy(0, 0, 5, 0, 1), -11);
        refused("copy: nothing, below 0", RefusalTest::coin, x -> x.copy(5, -1, 2, 0, 1), -11);
        refused("copy: beyond, nothing", RefusalTest::coin, x -> x.copy(2, FAR, 5, 0, 1), -11);
        refused("copy: no ROW, below 0", RefusalTest::coin, x -> x.copy(0, 0, 2, 0, -1), -12);
        refused("copy: beyond, no ROW", RefusalTest::coin, x -> x.copy(2, FAR, 1, 0, 1), -12);
        refused("copy: two kinds, below 0", RefusalTest::coin, x -> x.copy(3, 0, 2, -1, 1), -12);
        refused("copy: two kinds, beyond", RefusalTest::coin, x -> x.copy(2, 0, 3, FAR, 1), -12);
    }

    private static void weightAndRatio() {
        refused("weight: SHELF", RefusalTest::coin, x -> x.weight(8), -1);
        refused("weight: nothing", RefusalTest::coin, x -> x.weight(5), -11);
        refused("weight: a ROW", RefusalTest::coin, x -> x.weight(2), -12);
        refused("ratio: SHELF", RefusalTest::coin, x -> x.ratio(1, 8), -1);
        refused("ratio: nothing", RefusalTest::coin, x -> x.ratio(1, 5), -11);
        refused("ratio: no NUMBER", RefusalTest::coin, x -> x.ratio(1, 0), -12);
        refused("ratio: 0", RefusalTest::coin, x -> x.ratio(1, 4), -15);
        refused("ratio: SHELF, nothing", RefusalTest::coin, x -> x.ratio(5, 8), -1);
        refused("ratio: SHELF, nothing", RefusalTest::coin, x -> x.ratio(-1, 5), -1);
        refused("ratio: SHELF, no NUMBER", RefusalTest::coin, x -> x.ratio(0, -1), -1);
        refused("ratio: SHELF, 0", RefusalTest::coin, x -> x.ratio(8, 4), -1);
        refused("ratio: nothing, no NUMBER", RefusalTest::coin, x -> x.ratio(5, 0), -11);
        refused("ratio: no NUMBER, nothing", RefusalTest::coin, x -> x.ratio(2, 5), -11);
        refused("ratio: nothing, 0", RefusalTest::coin, x -> x.ratio(5, 4), -11);
        refused("ratio: no NUMBER, 0", RefusalTest::coin, x -> x.ratio(0, 4), -12);
        refused("ratio: no NUMBER, 0", RefusalTest::coin, x -> x.ratio(3, 4), -12);
    }
}
