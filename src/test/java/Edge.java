/**
 * Sentences of the document that name a boundary. Each must be met, and so must the case beside it
 * on the other side: a sentence whose test lacks one of the two is counted as not as due.
 */
final class Edge {
    private static String sentence = "";
    private static int met;
    private static int beside;

    private Edge() {
    }

    static void sentence(String where, String words) {
        close();
        sentence = where + ", \"" + words + "\": ";
        met = 0;
        beside = 0;
    }

    static void met(String call, long got, long want) {
        met++;
        Due.is(sentence + call, got, want);
    }

    static void beside(String call, long got, long want) {
        beside++;
        Due.is(sentence + call, got, want);
    }

    static void either(boolean isMet, String call, long got, long want) {
        if (isMet) {
            met(call, got, want);
        } else {
            beside(call, got, want);
        }
    }

    static void end() {
        close();
        sentence = "";
        Due.end();
    }

    private static void close() {
        if (!sentence.isEmpty()) {
            Due.isTrue(sentence + "the case is met", met > 0);
            Due.isTrue(sentence + "the case beside it is met", beside > 0);
        }
    }
}
