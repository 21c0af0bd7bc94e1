/** Counts answers that are not the ones due and prints the first of them. */
final class Due {
    private static final int PRINTED_AT_MOST = 20;

    private final String test;
    private long calls = 0;
    private long wrong = 0;

    Due(String test) {
        this.test = test;
    }

    void is(String call, long got, long want) {
        calls++;
        if (got != want) {
            report(call + " answered " + got + ", due is " + want);
        }
    }

    void is(String call, boolean got, boolean want) {
        is(call, got ? 1 : 0, want ? 1 : 0);
    }

    /** For the calls made by the million: the text is put together only if the answer is wrong. */
    void is(String method, int argument, String name, long got, long want) {
        calls++;
        if (got != want) {
            report(method + "(" + argument + ")" + name + " answered " + got + ", due is " + want);
        }
    }

    void holds(String claim, boolean truth) {
        calls++;
        if (!truth) {
            report(claim + " does not hold");
        }
    }

    private void report(String line) {
        wrong++;
        if (wrong <= PRINTED_AT_MOST) {
            System.out.println(test + ": " + line);
        }
    }

    void end() {
        System.out.println(test + ": " + calls + " answers looked at, " + wrong + " wrong");
        if (wrong != 0 || calls == 0) {
            System.exit(1);
        }
    }
}
