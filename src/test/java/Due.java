/** Counts answers that are not as due; each test ends with it. */
final class Due {
    private static int calls = 0;
    private static int wrong = 0;

    private Due() {
    }

    static void is(String call, long got, long want) {
        calls++;
        if (got != want) {
            wrong++;
            if (wrong <= 50) {
                System.out.println(call + " answered " + got + ", due is " + want);
            }
        }
    }

    static void isTrue(String what, boolean holds) {
        is(what, holds ? 1 : 0, 1);
    }

    static void elementThrows(ChanceCourt x, int d, int i, int want) {
        is("element(" + d + ", " + i + ") throws (1 IllegalArgumentException, 2 IllegalStateException)",
                thrown(x, d, i), want);
    }

    /** 0 if element() answers, 1 for IllegalArgumentException, 2 for IllegalStateException, more for others. */
    static int thrown(ChanceCourt x, int d, int i) {
        try {
            x.element(d, i);
        } catch (IllegalArgumentException e) {
            return e.getClass() == IllegalArgumentException.class ? 1 : 3;
        } catch (IllegalStateException e) {
            return e.getClass() == IllegalStateException.class ? 2 : 4;
        }
        return 0;
    }

    static int wrong() {
        return wrong;
    }

    static void end() {
        System.out.println(calls + " answers, " + wrong + " not as due");
        if (wrong != 0 || calls == 0) {
            System.exit(1);
        }
    }
}
