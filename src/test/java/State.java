import java.util.ArrayList;
import java.util.List;

/** The five parts of an object's state as they should be, a way there, and the calls that show them. */
record State(Reference r, int message, int errors, int received, int decoded, int found) {

    static State fresh(Reference r) {
        return new State(r, 0, 0, 0, -1, -1);
    }

    /** Every part differs from its start, and no two come from the same word. */
    static State afterSuccess(Reference r) {
        return new State(r, 6, 2050, r.codewords[11] ^ 64, 13, 33);
    }

    static State afterFailure(Reference r) {
        return new State(r, 6, 2050, r.codewords[11] ^ 64, -1, -1);
    }

    /** The states that a call at an edge is made in: three for each of the chosen objects. */
    static List<State> all() {
        List<State> states = new ArrayList<>();
        for (Reference r : Inputs.references()) {
            states.addAll(List.of(fresh(r), afterSuccess(r), afterFailure(r)));
        }
        return states;
    }

    State withMessage(int other) {
        return new State(r, other, errors, received, decoded, found);
    }

    State withErrors(int other) {
        return new State(r, message, other, received, decoded, found);
    }

    State withReceived(int other) {
        return new State(r, message, errors, other, decoded, found);
    }

    State afterDecrypt() {
        return new State(r, message, errors, received, r.decodedFrom(received), r.foundIn(received));
    }

    /** The word that encrypt() makes. */
    int encrypted() {
        return r.codewords[message] ^ errors;
    }

    String name() {
        return r.name() + " with message " + message + ", errors " + errors
            + ", received " + received + ", decoded " + decoded + ", found " + found;
    }

    /** A new object that has come into this state. */
    GoppaCrypt object() {
        GoppaCrypt x = r.fresh();
        if (!equals(fresh(r))) {
            x.setReceived(found == -1 ? r.farWord() : r.codewords[decoded] ^ found);
            x.decrypt();
            x.setMessage(message);
            x.setErrors(errors);
            x.setReceived(received);
        }
        return x;
    }

    void results(Due due, String when, GoppaCrypt x) {
        due.is("decodedMessage() " + when, x.decodedMessage(), decoded);
        due.is("foundErrors() " + when, x.foundErrors(), found);
    }

    /**
     * Looks at all five parts. The received word shows in decrypt(); the message and the error mask in
     * encrypt(), because no other pair of the two gives the same word. The object is used up by it.
     */
    void shown(Due due, String when, GoppaCrypt x) {
        results(due, when, x);
        due.is("decrypt() " + when, x.decrypt(), r.weightIn(received));
        afterDecrypt().results(due, "after decrypt() " + when, x);
        due.is("encrypt() " + when, x.encrypt(), encrypted());
    }
}
