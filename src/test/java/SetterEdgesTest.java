import java.util.function.IntPredicate;

/** Promises 11, 12 and 14: a test of its own for each sentence that names an edge. */
public final class SetterEdgesTest {
    private static final Due due = new Due("SetterEdgesTest");
    private static final int MIN = Inputs.MIN;
    private static final int MAX = Inputs.MAX;
    private static final int[] TOO_HEAVY = {7, 2051, 2081, 3584, 2730, 4095};

    private interface Setter {
        IntPredicate of(GoppaCrypt x);
    }

    /** The state that an accepted value leads to. */
    private interface Change {
        State of(State before, int value);
    }

    private static final Setter MESSAGE = x -> x::setMessage;
    private static final Setter ERRORS = x -> x::setErrors;
    private static final Setter RECEIVED = x -> x::setReceived;

    public static void main(String[] args) {
        due.sentence("Promise 11", "If m < 0 .. it answers false (refused) and changes nothing",
            SetterEdgesTest::messagesBelow);
        due.sentence("Promise 11", "If .. m >= 2^K, it answers false (refused) and changes nothing",
            SetterEdgesTest::messagesAbove);
        due.sentence("Promise 11", "Otherwise it sets message = m and answers true; nothing else changes",
            SetterEdgesTest::messagesInside);
        due.sentence("Promise 12", "If e < 0 .. it answers false (refused) and changes nothing",
            SetterEdgesTest::errorMasksBelow);
        due.sentence("Promise 12", "If .. e > 4095 .. it answers false (refused) and changes nothing",
            SetterEdgesTest::errorMasksAbove);
        due.sentence("Promise 12", "If .. the weight of e is above 2, it answers false (refused) and changes "
            + "nothing", SetterEdgesTest::errorMasksTooHeavy);
        due.sentence("Promise 12", "Otherwise it sets error mask = e and answers true; nothing else changes",
            SetterEdgesTest::errorMasksInside);
        due.sentence("Promise 12", "Accepted values are exactly the words of weight 0, 1 or 2 (79 values)",
            SetterEdgesTest::acceptedErrorMasks);
        due.sentence("Promise 14", "If w < 0 .. it answers false (refused) and changes nothing",
            SetterEdgesTest::receivedWordsBelow);
        due.sentence("Promise 14", "If .. w > 4095, it answers false (refused) and changes nothing",
            SetterEdgesTest::receivedWordsAbove);
        due.sentence("Promise 14", "Otherwise it sets received word = w and answers true. Nothing else changes",
            SetterEdgesTest::receivedWordsInside);
        due.sentence("Terms", "A refused call answers as stated and changes nothing", SetterEdgesTest::refusedCalls);
        due.end();
    }

    /** The value is accepted in each state, and its own part alone moves. */
    private static void accepted(String method, Setter setter, Change change, int... values) {
        for (State before : State.all()) {
            for (int value : values) {
                set(method, setter, value, true, before, change.of(before, value));
            }
        }
    }

    /** The value is refused in each state, and the later calls show that nothing has moved. */
    private static void refused(String method, Setter setter, int... values) {
        for (State before : State.all()) {
            for (int value : values) {
                set(method, setter, value, false, before, before);
            }
        }
    }

    private static void set(String method, Setter setter, int value, boolean accepted, State before, State after) {
        GoppaCrypt x = before.object();
        due.each(method, before.name(), setter.of(x), accepted, value);
        after.shown(due, "after " + method + "(" + value + ")" + before.name(), x);
    }

    private static void messagesBelow() {
        refused("setMessage", MESSAGE, -1, -2, -16, MIN, MIN + 1);
    }

    private static void messagesAbove() {
        refused("setMessage", MESSAGE, 16, 17, 31, 32, 4095, 4096, MAX - 1, MAX);
    }

    private static void messagesInside() {
        accepted("setMessage", MESSAGE, State::withMessage, 0, 1, 14, 15);
    }

    private static void errorMasksBelow() {
        refused("setErrors", ERRORS, -1, -2, -2048, -4096, MIN, MIN + 1);
    }

    private static void errorMasksAbove() {
        refused("setErrors", ERRORS, 4096, 4097, 8192, 65536, 65537, 1 << 30, MAX - 1, MAX);
    }

    private static void errorMasksTooHeavy() {
        refused("setErrors", ERRORS, TOO_HEAVY);
    }

    private static void errorMasksInside() {
        accepted("setErrors", ERRORS, State::withErrors, 0, 1, 2048, 3, 3072, 2049);
    }

    private static void acceptedErrorMasks() {
        for (Reference r : Inputs.references()) {
            GoppaCrypt x = r.fresh();
            int[] acceptedOfWeight = new int[33];
            for (int e = -8192; e < 8192; e++) {
                acceptedOfWeight[Integer.bitCount(e)] += x.setErrors(e) ? 1 : 0;
            }
            for (int bit = 13; bit < 32; bit++) {
                acceptedOfWeight[1] += x.setErrors(1 << bit) ? 1 : 0;
            }
            int[] wanted = {1, 12, 66};
            for (int weight = 0; weight <= 32; weight++) {
                due.is("accepted error masks of weight " + weight + r.name(), acceptedOfWeight[weight],
                    weight <= 2 ? wanted[weight] : 0);
            }
        }
    }

    private static void receivedWordsBelow() {
        refused("setReceived", RECEIVED, -1, -2, -4096, MIN, MIN + 1);
    }

    private static void receivedWordsAbove() {
        refused("setReceived", RECEIVED, 4096, 4097, 8191, 65536, MAX - 1, MAX);
    }

    private static void receivedWordsInside() {
        accepted("setReceived", RECEIVED, State::withReceived, 0, 1, 2048, 4094, 4095);
        greatestWordIsKept();
    }

    // Where 4095 is not far from the code, decrypt() tells the word whole.
    private static void greatestWordIsKept() {
        int seen = 0;
        for (int poly : Inputs.rootlessPolys()) {
            Reference r = new Reference(poly, 0);
            if (r.foundIn(4095) != -1) {
                seen++;
                GoppaCrypt x = new GoppaCrypt(poly, 0);
                due.is("setReceived(4095) of poly " + poly, x.setReceived(4095), true);
                State.fresh(r).withReceived(4095).shown(due, "after setReceived(4095) of poly " + poly, x);
            }
        }
        due.holds("some code has a word near 4095, which", seen > 0);
    }

    private static void refusedCalls() {
        for (State before : State.all()) {
            GoppaCrypt x = before.object();
            refusedCallsAnswer(before.name(), x);
            before.shown(due, "after refused calls" + before.name(), x);
        }
    }

    private static void refusedCallsAnswer(String name, GoppaCrypt x) {
        int[] outside = {-1, 4096, MIN, MAX};
        due.each("support", name, x::support, -1, outside);
        due.each("ringInverse", name, x::ringInverse, -1, outside);
        due.each("ringSqrt", name, x::ringSqrt, -1, outside);
        due.each("syndrome", name, x::syndrome, -1, outside);
        due.each("checkRow", name, x::checkRow, -1, outside);
        due.each("infoPosition", name, x::infoPosition, -1, outside);
        due.each("fieldMul by 1 of ", name, a -> x.fieldMul(a, 1), -1, outside);
        due.each("fieldMul of 1 by ", name, b -> x.fieldMul(1, b), -1, outside);
        due.each("setMessage", name, x::setMessage, false, outside);
        due.each("setErrors", name, x::setErrors, false, outside);
        due.each("setErrors", name, x::setErrors, false, TOO_HEAVY);
        due.each("setReceived", name, x::setReceived, false, outside);
    }
}
