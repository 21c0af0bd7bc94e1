import java.util.ArrayList;
import java.util.List;
import java.util.function.IntUnaryOperator;

/** All that an object tells of what the constructor has fixed, as one row of numbers. */
final class Derived {
    private Derived() {
    }

    /** The answers of the calls that change nothing. */
    static List<Integer> asked(GoppaCrypt x) {
        List<Integer> answers = new ArrayList<>(List.of(x.goppaPoly(), x.dimension()));
        add(answers, x::support, 12);
        add(answers, x::checkRow, 12);
        add(answers, x::infoPosition, 12);
        add(answers, x::ringInverse, 256);
        add(answers, x::ringSqrt, 256);
        add(answers, x::syndrome, 4096);
        return answers;
    }

    /** What asked() should be. */
    static List<Integer> due(Reference r) {
        List<Integer> answers = new ArrayList<>(List.of(r.goppaPoly(), r.dimension()));
        add(answers, r::support, 12);
        add(answers, i -> i < r.checkRows.size() ? r.checkRows.get(i) : -1, 12);
        add(answers, i -> i < r.infoPositions.size() ? r.infoPositions.get(i) : -1, 12);
        add(answers, p -> r.inverse[p], 256);
        add(answers, p -> r.squareRoot[p], 256);
        add(answers, w -> r.syndrome[w], 4096);
        return answers;
    }

    /** Encoding and extraction as well, which only calls that change the state can show. */
    static List<Integer> all(GoppaCrypt x) {
        List<Integer> answers = asked(x);
        x.setErrors(0);
        add(answers, m -> x.setMessage(m) ? x.encrypt() : -1, 1 << x.dimension());
        add(answers, w -> x.setReceived(w) ? x.decrypt() : -2, 4096);
        add(answers, w -> x.setReceived(w) && x.decrypt() >= 0 ? x.decodedMessage() : -1, 4096);
        add(answers, w -> x.setReceived(w) && x.decrypt() >= 0 ? x.foundErrors() : -1, 4096);
        return answers;
    }

    private static void add(List<Integer> answers, IntUnaryOperator call, int count) {
        for (int argument = 0; argument < count; argument++) {
            answers.add(call.applyAsInt(argument));
        }
    }
}
