/** Builds systems for tests, and looks that the building calls answer as they should. */
final class Build {
    private Build() {
    }

    static ChanceCourt states(int n) {
        ChanceCourt x = new ChanceCourt();
        for (int s = 0; s < n; s++) {
            Due.is("state()", x.state(), s);
        }
        return x;
    }

    /** An ACT with its OUTCOMES as pairs of a STATE and a PART. */
    static int act(ChanceCourt x, int state, int kind, int cost, int... pairs) {
        int a = x.act(state, kind, cost);
        Due.isTrue("act(" + state + ", " + kind + ", " + cost + ") answers a number", a >= 0);
        int total = 0;
        for (int i = 0; i + 1 < pairs.length; i += 2) {
            total += pairs[i + 1];
            Due.is("outcome(" + state + ", " + a + ", " + pairs[i] + ", " + pairs[i + 1] + ")",
                    x.outcome(state, a, pairs[i], pairs[i + 1]), total);
        }
        return a;
    }

    static void value(ChanceCourt x, int state, boolean least, long upper, long lower) {
        Due.is("value(" + state + ", " + least + ", 0)", x.value(state, least, 0), upper);
        Due.is("value(" + state + ", " + least + ", 1)", x.value(state, least, 1), lower);
    }
}
