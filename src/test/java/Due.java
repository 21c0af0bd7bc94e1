import java.util.function.IntPredicate;
import java.util.function.IntUnaryOperator;

/** Counts answers that are not the ones due and prints the first of them. */
final class Due {
    private static final int PRINTED_AT_MOST = 20;

    private final String test;
    private long calls = 0;
    private long wrong = 0;
    private String sentence = null;
    private long callsBefore = 0;
    private long wrongBefore = 0;
    private boolean sentenceUntested = false;

    Due(String test) {
        this.test = test;
    }

    /** What is looked at from here on is the test of this sentence of the document. */
    void sentence(String where, String words) {
        endSentence();
        sentence = where + ": " + words;
    }

    private void endSentence() {
        if (sentence != null) {
            long looked = calls - callsBefore;
            sentenceUntested |= looked == 0;
            System.out.println((wrong > wrongBefore ? "  WRONG   " : looked == 0 ? "  NO TEST " : "  holds   ") + sentence);
        }
        callsBefore = calls;
        wrongBefore = wrong;
    }

    void is(String call, long got, long want) {
        calls++;
        if (got != want) {
            report(call + " answered " + got + ", due is " + want);
        }
    }

    void is(String call, boolean got, boolean want) {
        is(call, got ? 1 : 0, want ? 1 : 0);
    }

    /** For the calls made by the million: the text is put together only if the answer is wrong. */
    void is(String method, int argument, String name, long got, long want) {
        calls++;
        if (got != want) {
            report(method + "(" + argument + ")" + name + " answered " + got + ", due is " + want);
        }
    }

    /** One answer is due for all of these arguments. */
    void each(String method, String name, IntUnaryOperator call, int want, int... arguments) {
        for (int argument : arguments) {
            is(method, argument, name, call.applyAsInt(argument), want);
        }
    }

    void each(String method, String name, IntPredicate call, boolean want, int... arguments) {
        each(method, name, argument -> call.test(argument) ? 1 : 0, want ? 1 : 0, arguments);
    }

    void holds(String claim, boolean truth) {
        calls++;
        if (!truth) {
            report(claim + " does not hold");
        }
    }

    private void report(String line) {
        wrong++;
        if (wrong - wrongBefore <= PRINTED_AT_MOST) {
            System.out.println(test + ": " + line);
        }
    }

    void end() {
        endSentence();
        System.out.println(test + ": " + calls + " answers looked at, " + wrong + " wrong");
        if (wrong != 0 || calls == 0 || sentenceUntested) {
            System.exit(1);
        }
    }
}
