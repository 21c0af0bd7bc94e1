import java.util.List;

/** Promises 13, 15 and 16: a test of its own for each sentence that names an edge. */
public final class CipherEdgesTest {
    private static final Due due = new Due("CipherEdgesTest");
    private static final List<Reference> REFERENCES = Inputs.references();
    private static final int GREATEST = 15;
    /** No error, the first and the last position, and the first, the last and the widest pair. */
    private static final int[] MASKS = {0, 1, 2048, 3, 3072, 2049};

    public static void main(String[] args) {
        due.sentence("Promise 13", "encrypt() is never refused (on a fresh object, and in every state)",
            CipherEdgesTest::encryptOnFreshObject);
        due.sentence("Promise 13", "It sets received word = E(message) XOR error mask and answers the new "
            + "received word, a value in 0..4095", CipherEdgesTest::encryptAtTheEdges);
        due.sentence("Promise 13", "Calling it again without changing the message or the error mask answers "
            + "the same word", CipherEdgesTest::encryptAgain);
        due.sentence("Promise 13", "The message, the error mask, the decoded message and the found errors "
            + "keep their values", CipherEdgesTest::encryptKeepsTheRest);
        due.sentence("Promise 15", "On a fresh object the received word is 0, so decrypt() answers 0 and sets "
            + "found errors = 0 and decoded message = 0", CipherEdgesTest::decryptOnFreshObject);
        due.sentence("Promise 15", "It answers the weight of e (0, 1 or 2)",
            CipherEdgesTest::decryptAnswersTheWeight);
        due.sentence("Promise 15", "The decoded message then lies in 0..2^K-1",
            CipherEdgesTest::decodedMessageInRange);
        due.sentence("Promise 15", "Otherwise it sets found errors = -1, sets decoded message = -1, and "
            + "answers -1", CipherEdgesTest::decryptFails);
        due.sentence("Promise 15", "The message, the error mask and the received word never change here",
            CipherEdgesTest::decryptKeepsTheRest);
        due.sentence("Promise 15", "Each call overwrites the results of any earlier decrypt()",
            CipherEdgesTest::resultsAreOverwritten);
        due.sentence("Promise 15", "So every message 0..2^K-1 combined with every error mask of weight at "
            + "most 2 is encrypted and then exactly recovered, together with the error positions",
            CipherEdgesTest::roundTripsOnFreshObjects);
        due.sentence("Promise 15", "Round trip: take any sequence of calls on a fresh object",
            CipherEdgesTest::roundTripsAfterOtherCalls);
        due.sentence("Promise 15", "the values set by the last accepted setMessage and setErrors, or the "
            + "initial 0 if there was none", CipherEdgesTest::roundTripsWithoutSetters);
        due.sentence("Promise 16", "Both answer -1 before any decrypt()", CipherEdgesTest::noResultsBeforeDecrypt);
        due.sentence("Promise 16", "and after a failed one", CipherEdgesTest::noResultsAfterFailure);
        due.sentence("Promise 16", "After a successful decrypt(), they answer the values that call set, until "
            + "the next decrypt(). No call other than decrypt() changes these values", CipherEdgesTest::resultsStay);
        due.sentence("Promise 16", "Neither changes anything", CipherEdgesTest::askingForResultsChangesNothing);
        due.end();
    }

    private static void encryptOnFreshObject() {
        for (Reference r : REFERENCES) {
            due.is("encrypt() on a fresh object" + r.name(), r.fresh().encrypt(), 0);
        }
        for (State state : State.all()) {
            due.is("encrypt()" + state.name(), state.object().encrypt(), state.encrypted());
        }
    }

    private static void encryptAtTheEdges() {
        for (Reference r : REFERENCES) {
            for (int message : new int[] {0, GREATEST}) {
                for (int mask : MASKS) {
                    State set = State.afterSuccess(r).withMessage(message).withErrors(mask);
                    GoppaCrypt x = set.object();
                    int word = x.encrypt();
                    due.is("encrypt()" + set.name(), word, set.encrypted());
                    due.holds("encrypt()" + set.name() + " is in 0..4095, which", word >= 0 && word <= 4095);
                    set.withReceived(set.encrypted()).shown(due, "after encrypt()" + set.name(), x);
                }
            }
        }
    }

    private static void encryptAgain() {
        for (State state : State.all()) {
            GoppaCrypt x = state.object();
            int word = x.encrypt();
            due.is("encrypt() again" + state.name(), x.encrypt(), word);
            x.setReceived(4095);
            due.is("encrypt() after setReceived(4095)" + state.name(), x.encrypt(), word);
            x.decrypt();
            due.is("encrypt() after decrypt()" + state.name(), x.encrypt(), word);
            x.setMessage(GREATEST + 1);
            x.setErrors(7);
            due.is("encrypt() after refused calls" + state.name(), x.encrypt(), word);
        }
    }

    private static void encryptKeepsTheRest() {
        for (State state : State.all()) {
            GoppaCrypt x = state.object();
            x.encrypt();
            state.withReceived(state.encrypted()).shown(due, "after encrypt()" + state.name(), x);
        }
    }

    private static void decryptOnFreshObject() {
        for (Reference r : REFERENCES) {
            decrypted(r, r.fresh(), " on a fresh object", 0, 0, 0);
        }
    }

    private static void decrypted(Reference r, GoppaCrypt x, String when, int answer, int found, int decoded) {
        due.is("decrypt()" + when + r.name(), x.decrypt(), answer);
        due.is("foundErrors()" + when + r.name(), x.foundErrors(), found);
        due.is("decodedMessage()" + when + r.name(), x.decodedMessage(), decoded);
    }

    private static void decryptAnswersTheWeight() {
        for (Reference r : REFERENCES) {
            for (int codeword : r.code) {
                for (int mask : MASKS) {
                    GoppaCrypt x = r.fresh();
                    x.setReceived(codeword ^ mask);
                    decrypted(r, x, " of word " + (codeword ^ mask), Integer.bitCount(mask), mask, r.extract(codeword));
                }
            }
        }
    }

    private static void decodedMessageInRange() {
        for (Reference r : REFERENCES) {
            int seen = 0;
            GoppaCrypt x = r.fresh();
            for (int w = 0; w < 4096; w++) {
                x.setReceived(w);
                if (x.decrypt() >= 0) {
                    int decoded = x.decodedMessage();
                    due.holds("decodedMessage() of word " + w + r.name() + " is in 0..15, which",
                        decoded >= 0 && decoded <= GREATEST);
                    seen |= 1 << decoded;
                }
            }
            due.is("messages seen" + r.name(), seen, 65535);
        }
    }

    private static void decryptFails() {
        for (Reference r : REFERENCES) {
            int failures = 0;
            for (int w = 0; w < 4096; w++) {
                if (r.foundIn(w) == -1) {
                    GoppaCrypt x = State.afterSuccess(r).withReceived(w).object();
                    decrypted(r, x, " of word " + w, -1, -1, -1);
                    failures++;
                }
            }
            due.is("words that fail" + r.name(), failures, 4096 - 79 * 16);
        }
    }

    private static void decryptKeepsTheRest() {
        for (State state : State.all()) {
            Reference r = state.r();
            for (int mask : MASKS) {
                keptByDecrypt(state.withReceived(r.codewords[GREATEST] ^ mask));
            }
            keptByDecrypt(state.withReceived(r.farWord()));
        }
    }

    private static void keptByDecrypt(State state) {
        GoppaCrypt x = state.object();
        x.setReceived(state.received());
        x.decrypt();
        state.afterDecrypt().shown(due, "after decrypt()" + state.name(), x);
    }

    private static void resultsAreOverwritten() {
        for (Reference r : REFERENCES) {
            GoppaCrypt x = r.fresh();
            x.setReceived(r.codewords[9] ^ 2049);
            decrypted(r, x, " at first", 2, 2049, 9);
            x.setReceived(r.farWord());
            decrypted(r, x, " failed after success", -1, -1, -1);
            decrypted(r, x, " failed after failure", -1, -1, -1);
            x.setReceived(r.codewords[6] ^ 1);
            decrypted(r, x, " successful after failure", 1, 1, 6);
            x.setReceived(r.codewords[GREATEST] ^ 3072);
            decrypted(r, x, " successful after success", 2, 3072, GREATEST);
            decrypted(r, x, " the same again", 2, 3072, GREATEST);
            x.setReceived(0);
            decrypted(r, x, " of 0 after success", 0, 0, 0);
        }
    }

    private static void roundTrip(Reference r, GoppaCrypt x, int message, int mask) {
        String when = " after encrypt() of message " + message + " with errors " + mask;
        due.is("setMessage(" + message + ")" + r.name(), x.setMessage(message), true);
        due.is("setErrors(" + mask + ")" + r.name(), x.setErrors(mask), true);
        x.encrypt();
        decrypted(r, x, when, Integer.bitCount(mask), mask, message);
    }

    private static void roundTripsOnFreshObjects() {
        for (Reference r : REFERENCES) {
            for (int message = 0; message <= GREATEST; message++) {
                for (int mask : Inputs.errorMasks()) {
                    roundTrip(r, r.fresh(), message, mask);
                }
            }
        }
    }

    private static void roundTripsAfterOtherCalls() {
        for (Reference r : REFERENCES) {
            GoppaCrypt x = r.fresh();
            List<Calls.Call> calls = Calls.all();
            int next = 0;
            for (int message = 0; message <= GREATEST; message++) {
                for (int mask : Inputs.errorMasks()) {
                    calls.get(next).made().accept(x);
                    next = (next + 1) % calls.size();
                    roundTrip(r, x, message, mask);
                }
            }
        }
    }

    private static void roundTripsWithoutSetters() {
        for (Reference r : REFERENCES) {
            GoppaCrypt x = r.fresh();
            x.encrypt();
            decrypted(r, x, " after encrypt() alone", 0, 0, 0);
            x.setMessage(GREATEST + 1);
            x.setErrors(7);
            x.encrypt();
            decrypted(r, x, " after refused setters", 0, 0, 0);
            x.setMessage(GREATEST);
            x.encrypt();
            decrypted(r, x, " with a message alone", 0, 0, GREATEST);
            x.setErrors(2049);
            x.setMessage(-1);
            x.setErrors(4096);
            x.encrypt();
            decrypted(r, x, " with refused setters after accepted ones", 2, 2049, GREATEST);
            GoppaCrypt y = r.fresh();
            y.setErrors(2049);
            y.encrypt();
            decrypted(r, y, " with errors alone", 2, 2049, 0);
        }
    }

    /** Each call but decrypt() by itself, and all of them in turn, leave the results as they are. */
    private static void resultsStayFrom(State state) {
        GoppaCrypt throughAll = state.object();
        state.results(due, "at once" + state.name(), throughAll);
        for (Calls.Call call : Calls.allBut("decrypt")) {
            GoppaCrypt x = state.object();
            call.made().accept(x);
            state.results(due, "after " + call.text() + state.name(), x);
            call.made().accept(throughAll);
            state.results(due, "after all up to " + call.text() + state.name(), throughAll);
        }
    }

    private static void noResultsBeforeDecrypt() {
        for (Reference r : REFERENCES) {
            resultsStayFrom(State.fresh(r));
        }
    }

    private static void noResultsAfterFailure() {
        for (Reference r : REFERENCES) {
            resultsStayFrom(State.afterFailure(r));
        }
    }

    private static void resultsStay() {
        for (Reference r : REFERENCES) {
            resultsStayFrom(State.afterSuccess(r));
            resultsStayFrom(State.fresh(r).afterDecrypt());
        }
    }

    private static void askingForResultsChangesNothing() {
        Calls.changeNothing(due, "decodedMessage");
        Calls.changeNothing(due, "foundErrors");
    }
}
