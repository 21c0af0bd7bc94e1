/**
 * Long mixed runs of calls, two objects in turn, against the document's state kept beside them: a
 * call that changes what it should leave, or an object that shares state with another, shows here.
 */
public final class MixedRunsTest {
    private static final Due due = new Due("MixedRunsTest");
    private static final int RUNS = 60;
    private static final int CALLS = 4000;

    private static long state = 20261115L;

    // A fixed sequence, so that every run of the test makes the same calls.
    private static int next(int bound) {
        state = state * 6364136223846793005L + 1442695040888963407L;
        return (int) ((state >>> 33) % bound);
    }

    private static final class Model {
        final Reference r;
        final GoppaCrypt x;
        int message = 0;
        int errors = 0;
        int received = 0;
        int decoded = -1;
        int found = -1;

        Model(int poly, int shift) {
            r = new Reference(poly, shift);
            x = new GoppaCrypt(poly, shift);
        }
    }

    public static void main(String[] args) {
        for (int run = 0; run < RUNS; run++) {
            Model one = new Model(next(300) - 20, next(24) - 4);
            Model two = new Model(next(300) - 20, next(24) - 4);
            for (int call = 0; call < CALLS; call++) {
                oneCall(next(2) == 0 ? one : two);
            }
        }
        due.end();
    }

    private static int anyValue() {
        switch (next(6)) {
            case 0: return next(16);
            case 1: return next(256);
            case 2: return (1 << next(12)) | (1 << next(12));
            case 3: return Inputs.FAR_OUTSIDE[next(Inputs.FAR_OUTSIDE.length)];
            case 4: return next(40) - 20;
            default: return next(4096);
        }
    }

    private static void oneCall(Model s) {
        int v = anyValue();
        switch (next(8)) {
            case 0: setMessage(s, next(2) == 0 ? next(16) : v); break;
            case 1: setErrors(s, v); break;
            case 2: setReceived(s, v); break;
            case 3: encrypt(s); break;
            case 4: decrypt(s); break;
            case 5: encrypt(s); roundTrip(s); break;
            default: questions(s, v, anyValue()); break;
        }
        due.is("decodedMessage()", s.x.decodedMessage(), s.decoded);
        due.is("foundErrors()", s.x.foundErrors(), s.found);
    }

    private static void setMessage(Model s, int v) {
        boolean accepted = v >= 0 && v < s.r.code.size();
        due.is("setMessage(" + v + ")", s.x.setMessage(v), accepted);
        s.message = accepted ? v : s.message;
    }

    private static void setErrors(Model s, int v) {
        boolean accepted = v >= 0 && v <= 4095 && Integer.bitCount(v) <= 2;
        due.is("setErrors(" + v + ")", s.x.setErrors(v), accepted);
        s.errors = accepted ? v : s.errors;
    }

    private static void setReceived(Model s, int v) {
        boolean accepted = v >= 0 && v <= 4095;
        due.is("setReceived(" + v + ")", s.x.setReceived(v), accepted);
        s.received = accepted ? v : s.received;
    }

    private static void encrypt(Model s) {
        s.received = s.r.codewords[s.message] ^ s.errors;
        due.is("encrypt()", s.x.encrypt(), s.received);
    }

    private static void decrypt(Model s) {
        s.found = s.r.foundIn(s.received);
        s.decoded = s.r.decodedFrom(s.received);
        due.is("decrypt()", s.x.decrypt(), s.r.weightIn(s.received));
    }

    private static void roundTrip(Model s) {
        decrypt(s);
        due.is("decoded message of a round trip", s.x.decodedMessage(), s.message);
        due.is("found errors of a round trip", s.x.foundErrors(), s.errors);
    }

    private static boolean inside(int v, int from, int to) {
        return v >= from && v <= to;
    }

    private static void questions(Model s, int v, int u) {
        Reference r = s.r;
        int k = r.dimension();
        due.is("goppaPoly()", s.x.goppaPoly(), r.goppaPoly());
        due.is("dimension()", s.x.dimension(), k);
        due.is("support(" + v + ")", s.x.support(v), inside(v, 0, 11) ? r.support(v) : -1);
        due.is("fieldMul(" + v + ", " + u + ")", s.x.fieldMul(v, u),
            inside(v, 0, 15) && inside(u, 0, 15) ? Reference.fieldMul(v, u) : -1);
        due.is("ringInverse(" + v + ")", s.x.ringInverse(v), inside(v, 1, 255) ? r.inverse[v] : -1);
        due.is("ringSqrt(" + v + ")", s.x.ringSqrt(v), inside(v, 0, 255) ? r.squareRoot[v] : -1);
        due.is("syndrome(" + v + ")", s.x.syndrome(v), inside(v, 0, 4095) ? r.syndrome[v] : -1);
        due.is("checkRow(" + v + ")", s.x.checkRow(v), inside(v, 0, 11 - k) ? r.checkRows.get(v) : -1);
        due.is("infoPosition(" + v + ")", s.x.infoPosition(v), inside(v, 0, k - 1) ? r.infoPositions.get(v) : -1);
    }
}
