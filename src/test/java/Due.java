/** Counts answers that are not as due; each test ends with it. */
final class Due {
    private static int calls = 0;
    private static int wrong = 0;

    private Due() {
    }

    static void is(String call, long got, long want) {
        calls++;
        if (got != want) {
            wrong++;
            if (wrong <= 50) {
                System.out.println(call + " answered " + got + ", due is " + want);
            }
        }
    }

    static void isTrue(String what, boolean holds) {
        is(what, holds ? 1 : 0, 1);
    }

    /** 1 for IllegalArgumentException, 2 for IllegalStateException. */
    static void elementThrows(ChanceCourt x, int d, int i, int want) {
        int kind = 0;
        try {
            x.element(d, i);
        } catch (IllegalArgumentException e) {
            kind = e.getClass() == IllegalArgumentException.class ? 1 : 3;
        } catch (IllegalStateException e) {
            kind = e.getClass() == IllegalStateException.class ? 2 : 4;
        }
        is("element(" + d + ", " + i + ") throws (1 IllegalArgumentException, 2 IllegalStateException)", kind, want);
    }

    static int wrong() {
        return wrong;
    }

    static void end() {
        System.out.println(calls + " answers, " + wrong + " not as due");
        if (wrong != 0 || calls == 0) {
            System.exit(1);
        }
    }
}
