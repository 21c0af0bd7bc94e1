import java.util.ArrayList;
import java.util.List;
import java.util.function.Consumer;
import java.util.function.ObjIntConsumer;

/** Every method of the face at its edges, answered or accepted as well as refused; all codes have K = 4. */
final class Calls {
    private static final int MIN = Inputs.MIN;
    private static final int MAX = Inputs.MAX;

    /** A call with its method's name, its text, and how it is made. */
    record Call(String method, String text, Consumer<GoppaCrypt> made) {
    }

    private static final List<Call> ALL = new ArrayList<>();

    static {
        add("goppaPoly", GoppaCrypt::goppaPoly);
        add("support", GoppaCrypt::support, 0, 11, -1, 12, MIN, MAX);
        for (int[] pair : new int[][] {{0, 0}, {15, 15}, {-1, 1}, {1, 16}, {MIN, MAX}}) {
            ALL.add(new Call("fieldMul", "fieldMul(" + pair[0] + ", " + pair[1] + ")",
                x -> x.fieldMul(pair[0], pair[1])));
        }
        add("ringInverse", GoppaCrypt::ringInverse, 1, 255, 0, -1, 256, MIN, MAX);
        add("ringSqrt", GoppaCrypt::ringSqrt, 0, 255, -1, 256, MIN, MAX);
        add("syndrome", GoppaCrypt::syndrome, 0, 4095, -1, 4096, MIN, MAX);
        add("dimension", GoppaCrypt::dimension);
        add("checkRow", GoppaCrypt::checkRow, 0, 7, -1, 8, MIN, MAX);
        add("infoPosition", GoppaCrypt::infoPosition, 0, 3, -1, 4, MIN, MAX);
        add("setMessage", GoppaCrypt::setMessage, 0, 15, -1, 16, MIN, MAX);
        add("setErrors", GoppaCrypt::setErrors, 0, 1, 2048, 2049, 7, 4095, -1, 4096, MIN, MAX);
        add("encrypt", GoppaCrypt::encrypt);
        add("setReceived", GoppaCrypt::setReceived, 0, 4095, -1, 4096, MIN, MAX);
        add("decrypt", GoppaCrypt::decrypt);
        add("decodedMessage", GoppaCrypt::decodedMessage);
        add("foundErrors", GoppaCrypt::foundErrors);
    }

    private Calls() {
    }

    private static void add(String method, Consumer<GoppaCrypt> made) {
        ALL.add(new Call(method, method + "()", made));
    }

    private static void add(String method, ObjIntConsumer<GoppaCrypt> made, int... arguments) {
        for (int argument : arguments) {
            ALL.add(new Call(method, method + "(" + argument + ")", x -> made.accept(x, argument)));
        }
    }

    static List<Call> all() {
        return List.copyOf(ALL);
    }

    static List<Call> of(String method) {
        return ALL.stream().filter(call -> call.method().equals(method)).toList();
    }

    static List<Call> allBut(String method) {
        return ALL.stream().filter(call -> !call.method().equals(method)).toList();
    }

    /** From each state, the method's calls at their edges leave all five parts and all that is derived. */
    static void changeNothing(Due due, String method) {
        for (State state : State.all()) {
            List<Integer> derived = Derived.due(state.r());
            for (Call call : of(method)) {
                GoppaCrypt x = state.object();
                call.made().accept(x);
                due.holds(call.text() + " leaves all that is derived" + state.name(), Derived.asked(x).equals(derived));
                GoppaCrypt y = state.object();
                call.made().accept(y);
                state.shown(due, "after " + call.text() + state.name(), y);
            }
        }
    }
}
