/**
 * The system, all SHELVES and one answer of each kind for each STATE: few calls, so that two objects can
 * be compared within their 512.
 */
final class Picture {
    private final ChanceCourt x;
    private final StringBuilder text = new StringBuilder();

    private Picture(ChanceCourt x) {
        this.x = x;
    }

    /** The object is of no use afterwards: its ACTS go, so that MARKED STATES are seen of one that wasn't WHOLE. */
    static String of(ChanceCourt x) {
        Picture p = new Picture(x);
        p.system();
        p.findings();
        p.shelves();
        p.marks();
        return p.text.toString();
    }

    private void add(String call, long answer) {
        text.append(call).append(' ').append(answer).append('\n');
    }

    private void system() {
        add("whole", x.whole());
        for (int what = 0; what <= 4; what++) {
            add("count " + what, x.count(what));
        }
        int states = x.count(0);
        for (int s = 0; s < states; s++) {
            for (int a = 0; x.look(s, a, 0) >= 0; a++) {
                int outcomes = x.look(s, a, 2);
                for (int what = 0; what < 7 + outcomes; what++) {
                    if (what < 3 + outcomes || what >= 7) {
                        add("look " + s + " " + a + " " + what, x.look(s, a, what));
                    }
                }
            }
        }
    }

    private void findings() {
        for (int what = 0; what < 4; what++) {
            add("sets " + what, x.sets(what));
        }
        add("holes", x.hole(0, 0));
        add("hole 0", x.hole(0, 1));
        int states = x.count(0);
        for (int s = 0; s < states; s++) {
            add("most " + s, x.value(s, false, 0));
            add("least " + s, x.value(s, true, 0));
            add("choice " + s, x.choice(s));
            add("distance " + s, x.distance(s));
            add("sum " + s, x.sum(s, 0, 0));
            add("within " + s, x.within(s, 2, false, 0));
            add("bound " + s, x.bound(s, 6));
            add("reached " + s, x.reached(s));
            add("cost " + s, x.cost(s, 0));
            add("twin " + s, x.twin(s));
        }
    }

    private void shelves() {
        for (int d = 0; d < 8; d++) {
            long weight = x.weight(d);
            add("weight " + d, weight);
            add("ratio " + d, x.ratio(d, d));
            add("copy " + d, x.copy(d, 0, d, 0, 0));
            if (weight == -12) {
                elements(d);
            }
        }
    }

    private void elements(int d) {
        for (int i = 0; i <= 60; i++) {
            try {
                add("element " + d + " " + i, x.element(d, i));
            } catch (IllegalStateException e) {
                return;
            }
        }
    }

    /** A drop() that would be refused isn't asked for: if that changed something, it would hide it. */
    private void marks() {
        int states = x.count(0);
        for (int s = 0; s < states; s++) {
            for (int a = 0; a < 4 && x.look(s, 0, 0) >= 0; a++) {
                x.drop(s);
            }
        }
        add("marks", x.sets(0));
    }
}
