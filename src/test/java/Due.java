import java.util.function.IntPredicate;
import java.util.function.IntUnaryOperator;

/** Counts answers that are not the ones due and prints the first of them. */
final class Due {
    private static final int PRINTED_AT_MOST = 20;

    private final String test;
    private long calls = 0;
    private long wrong = 0;
    private long wrongBefore = 0;

    Due(String test) {
        this.test = test;
    }

    /** The test of one sentence of the document; one that throws is wrong and does not hold up the next. */
    void sentence(String where, String words, Runnable sentenceTest) {
        long callsBefore = calls;
        wrongBefore = wrong;
        try {
            sentenceTest.run();
        } catch (RuntimeException thrown) {
            report("threw " + thrown + " at " + thrown.getStackTrace()[0]);
        }
        if (calls == callsBefore) {
            report("nothing was looked at");
        }
        System.out.println((wrong > wrongBefore ? "  WRONG  " : "  holds  ") + where + ": " + words);
    }

    void is(String call, long got, long want) {
        calls++;
        if (got != want) {
            report(call + " answered " + got + ", due is " + want);
        }
    }

    void is(String call, boolean got, boolean want) {
        is(call, got ? 1 : 0, want ? 1 : 0);
    }

    /** For the calls made by the million: the text is put together only if the answer is wrong. */
    void is(String method, int argument, String name, long got, long want) {
        calls++;
        if (got != want) {
            report(method + "(" + argument + ")" + name + " answered " + got + ", due is " + want);
        }
    }

    /** One answer is due for all of these arguments. */
    void each(String method, String name, IntUnaryOperator call, int want, int... arguments) {
        for (int argument : arguments) {
            is(method, argument, name, call.applyAsInt(argument), want);
        }
    }

    void each(String method, String name, IntPredicate call, boolean want, int... arguments) {
        each(method, name, argument -> call.test(argument) ? 1 : 0, want ? 1 : 0, arguments);
    }

    void holds(String claim, boolean truth) {
        calls++;
        if (!truth) {
            report(claim + " does not hold");
        }
    }

    private void report(String line) {
        wrong++;
        if (wrong - wrongBefore <= PRINTED_AT_MOST) {
            System.out.println(test + ": " + line);
        }
    }

    void end() {
        System.out.println(test + ": " + calls + " answers looked at, " + wrong + " wrong");
        if (wrong != 0 || calls == 0) {
            System.exit(1);
        }
    }
}
