import java.util.List;

/** Promises 1 to 3: a test of its own for each sentence that names an edge. */
public final class ConstructionEdgesTest {
    private static final Due due = new Due("ConstructionEdgesTest");
    private static final int MIN = Inputs.MIN;
    private static final int MAX = Inputs.MAX;

    public static void main(String[] args) {
        due.sentence("Promise 1", "accepts every int value of both arguments. It never fails",
            ConstructionEdgesTest::everyInt);
        due.sentence("Promise 1", "poly: A value below 0 becomes 0", ConstructionEdgesTest::polyBelow);
        due.sentence("Promise 1", "poly: a value above 255 becomes 255", ConstructionEdgesTest::polyAbove);
        due.sentence("Promise 1", "shift: A value below 0 becomes 0", ConstructionEdgesTest::shiftBelow);
        due.sentence("Promise 1", "shift: a value above 15 becomes 15", ConstructionEdgesTest::shiftAbove);
        due.sentence("Promise 1", "This holds for every int, including Integer.MIN_VALUE and Integer.MAX_VALUE",
            ConstructionEdgesTest::endsOfInt);
        due.sentence("Promise 1", "Candidates c are tried in this order: the clamped poly, ..",
            ConstructionEdgesTest::firstCandidateItself);
        due.sentence("Promise 1", ".. then c+1, and so on: the first candidate is taken that has no root",
            ConstructionEdgesTest::nextCandidate);
        due.sentence("Promise 1", "with 255 followed by 0 (never needed: what is taken at the last candidates)",
            ConstructionEdgesTest::lastCandidates);
        due.sentence("Promise 1", "Such a candidate always exists", ConstructionEdgesTest::candidateAlwaysExists);
        due.sentence("Promise 1", "Right after construction: message = 0", ConstructionEdgesTest::messageStarts);
        due.sentence("Promise 1", "Right after construction: error mask = 0", ConstructionEdgesTest::errorMaskStarts);
        due.sentence("Promise 1", "Right after construction: received word = 0",
            ConstructionEdgesTest::receivedWordStarts);
        due.sentence("Promise 1", "Right after construction: decoded message = -1",
            ConstructionEdgesTest::decodedMessageStarts);
        due.sentence("Promise 1", "Right after construction: found errors = -1",
            ConstructionEdgesTest::foundErrorsStart);
        due.sentence("Promise 1", "Two objects built from arguments that clamp to the same values have "
            + "identical A, B, SHIFT and everything derived from them", ConstructionEdgesTest::identicalObjects);
        due.sentence("Promise 2", "goppaPoly() answers A*16 + B, a value in 0..255",
            ConstructionEdgesTest::goppaPolyInRange);
        due.sentence("Promise 2", "It changes nothing", () -> Calls.changeNothing(due, "goppaPoly"));
        due.sentence("Promise 3", "support(j) answers alpha_j = (SHIFT + j) mod 16 if 0 <= j <= 11",
            ConstructionEdgesTest::supportInside);
        due.sentence("Promise 3", "(SHIFT + j) mod 16, where SHIFT + j is 15 and 16",
            ConstructionEdgesTest::supportWrapsAround);
        due.sentence("Terms", "These are 12 distinct field elements", ConstructionEdgesTest::supportIsDistinct);
        due.sentence("Promise 3", "For every other int j, negative or above 11, it answers -1",
            ConstructionEdgesTest::supportOutside);
        due.sentence("Promise 3", "It changes nothing", () -> Calls.changeNothing(due, "support"));
        due.end();
    }

    private static void everyInt() {
        for (int bit = 0; bit < 32; bit++) {
            for (int near = -1; near <= 1; near++) {
                int value = (1 << bit) + near;
                built(value, 3, clamped(value, 255), 3);
                built(-value, 3, clamped(-value, 255), 3);
                built(40, value, 40, clamped(value, 15));
                built(40, -value, 40, clamped(-value, 15));
            }
        }
    }

    private static int clamped(int value, int greatest) {
        return Math.max(0, Math.min(greatest, value));
    }

    private static void built(int poly, int shift, int clampedPoly, int clampedShift) {
        String name = " of (" + poly + ", " + shift + ")";
        GoppaCrypt x = new GoppaCrypt(poly, shift);
        Reference r = new Reference(clampedPoly, clampedShift);
        due.is("goppaPoly()" + name, x.goppaPoly(), r.goppaPoly());
        for (int j = 0; j < 12; j++) {
            due.is("support(" + j + ")" + name, x.support(j), r.support(j));
            due.is("syndrome(" + (1 << j) + ")" + name, x.syndrome(1 << j), r.syndrome[1 << j]);
        }
    }

    private static int polyTaken(int poly) {
        return new GoppaCrypt(poly, 0).goppaPoly();
    }

    private static int firstSupport(int shift) {
        return new GoppaCrypt(40, shift).support(0);
    }

    // -231 is 25 and -4 is 252 in their lowest eight bits, and both of those stand for themselves.
    private static void polyBelow() {
        due.each("goppaPoly() of poly ", "", ConstructionEdgesTest::polyTaken, 24, 0, -1, -4, -231, -255, -256, -257);
    }

    // 281 is 25 and 508 is 252 in their lowest eight bits.
    private static void polyAbove() {
        due.each("goppaPoly() of poly ", "", ConstructionEdgesTest::polyTaken, 255, 255, 256, 257, 281, 508, 511, 512);
    }

    private static void shiftBelow() {
        due.each("support(0) of shift ", "", ConstructionEdgesTest::firstSupport, 0, 0, -1, -2, -15, -16, -17);
    }

    private static void shiftAbove() {
        due.each("support(0) of shift ", "", ConstructionEdgesTest::firstSupport, 15, 15, 16, 17, 30, 31, 32);
    }

    private static void endsOfInt() {
        due.is("goppaPoly() of the least int", polyTaken(MIN), 24);
        due.is("goppaPoly() of the greatest int", polyTaken(MAX), 255);
        due.is("support(0) of the least int", firstSupport(MIN), 0);
        due.is("support(0) of the greatest int", firstSupport(MAX), 15);
        built(MIN, MIN, 0, 0);
        built(MIN, MAX, 0, 15);
        built(MAX, MIN, 255, 0);
        built(MAX, MAX, 255, 15);
    }

    private static void firstCandidateItself() {
        for (int poly : Inputs.rootlessPolys()) {
            due.is("goppaPoly() of poly " + poly, polyTaken(poly), poly);
        }
    }

    private static void nextCandidate() {
        List<Integer> rootless = Inputs.rootlessPolys();
        int before = -1;
        for (int next : rootless) {
            for (int poly = before + 1; poly < next; poly++) {
                due.is("goppaPoly() of poly " + poly, polyTaken(poly), next);
            }
            before = next;
        }
        due.is("the last candidate without a root", before, 255);
    }

    // By hand: with z = 15*y, x^2+15x+B has no root just when B/10 is 8 or above (its trace is then 1);
    // for B = 12, 13, 14, 15 that is 15, 3, 4, 8. So 255 has no root, and no search goes on from it to 0.
    private static void lastCandidates() {
        due.is("goppaPoly() of poly 252", polyTaken(252), 252);
        due.is("goppaPoly() of poly 253", polyTaken(253), 255);
        due.is("goppaPoly() of poly 254", polyTaken(254), 255);
        due.is("goppaPoly() of poly 255", polyTaken(255), 255);
    }

    private static void candidateAlwaysExists() {
        for (int poly = 0; poly < 256; poly++) {
            int taken = polyTaken(poly);
            due.holds(taken + ", taken for poly " + poly + ", has no root", !Reference.hasRoot(taken / 16, taken % 16));
        }
    }

    private static void messageStarts() {
        for (Reference r : Inputs.references()) {
            GoppaCrypt x = r.fresh();
            x.setErrors(2049);
            due.is("encrypt() with the first message" + r.name(), x.encrypt(), 2049);
            x.decrypt();
            due.is("decodedMessage() of the first message" + r.name(), x.decodedMessage(), 0);
        }
    }

    private static void errorMaskStarts() {
        for (Reference r : Inputs.references()) {
            GoppaCrypt x = r.fresh();
            x.setMessage(15);
            int word = x.encrypt();
            due.is("syndrome of encrypt() with the first error mask" + r.name(), x.syndrome(word), 0);
            due.is("decrypt() with the first error mask" + r.name(), x.decrypt(), 0);
            due.is("foundErrors() with the first error mask" + r.name(), x.foundErrors(), 0);
        }
    }

    private static void receivedWordStarts() {
        for (Reference r : Inputs.references()) {
            GoppaCrypt x = r.fresh();
            x.setMessage(15);
            x.setErrors(2049);
            due.is("decrypt() of the first received word" + r.name(), x.decrypt(), 0);
            due.is("decodedMessage() of the first received word" + r.name(), x.decodedMessage(), 0);
            due.is("foundErrors() of the first received word" + r.name(), x.foundErrors(), 0);
        }
    }

    private static void decodedMessageStarts() {
        for (Reference r : Inputs.references()) {
            due.is("decodedMessage()" + r.name(), r.fresh().decodedMessage(), -1);
        }
    }

    private static void foundErrorsStart() {
        for (Reference r : Inputs.references()) {
            due.is("foundErrors()" + r.name(), r.fresh().foundErrors(), -1);
        }
    }

    private static void identicalObjects() {
        identical(new int[][] {{0, 0}, {-1, -1}, {MIN, MIN}, {0, -1}, {-1, 0}});
        identical(new int[][] {{255, 15}, {256, 16}, {MAX, MAX}, {255, 16}, {256, 15}});
        identical(new int[][] {{0, 15}, {-1, 16}, {MIN, MAX}});
        identical(new int[][] {{255, 0}, {256, -1}, {MAX, MIN}});
        identical(new int[][] {{77, 9}, {77, 9}});
    }

    private static void identical(int[][] arguments) {
        List<Integer> first = Derived.all(new GoppaCrypt(arguments[0][0], arguments[0][1]));
        for (int[] pair : arguments) {
            List<Integer> again = Derived.all(new GoppaCrypt(pair[0], pair[1]));
            due.holds("all of (" + pair[0] + ", " + pair[1] + ") is as of (" + arguments[0][0] + ", "
                + arguments[0][1] + "), which", again.equals(first));
        }
    }

    private static void goppaPolyInRange() {
        for (int poly : new int[] {MIN, -1, 0, 1, 24, 25, 254, 255, 256, MAX}) {
            int answer = polyTaken(poly);
            due.holds("goppaPoly() of poly " + poly + " is in 0..255, which", answer >= 0 && answer <= 255);
            due.is("goppaPoly() of poly " + poly, answer, new Reference(poly, 0).goppaPoly());
        }
    }

    private static void supportInside() {
        due.is("support(0) of shift 0", new GoppaCrypt(0, 0).support(0), 0);
        due.is("support(11) of shift 0", new GoppaCrypt(0, 0).support(11), 11);
        due.is("support(0) of shift 15", new GoppaCrypt(0, 15).support(0), 15);
        due.is("support(11) of shift 15", new GoppaCrypt(0, 15).support(11), 10);
    }

    private static void supportWrapsAround() {
        for (int shift = 4; shift < 16; shift++) {
            GoppaCrypt x = new GoppaCrypt(0, shift);
            due.is("support(" + (15 - shift) + ") of shift " + shift, x.support(15 - shift), 15);
            if (shift > 4) {
                due.is("support(" + (16 - shift) + ") of shift " + shift, x.support(16 - shift), 0);
            }
        }
    }

    private static void supportIsDistinct() {
        for (int shift = 0; shift < 16; shift++) {
            GoppaCrypt x = new GoppaCrypt(0, shift);
            int seen = 0;
            for (int j = 0; j < 12; j++) {
                seen |= 1 << x.support(j);
            }
            due.is("different support elements of shift " + shift, Integer.bitCount(seen & 65535), 12);
        }
    }

    private static void supportOutside() {
        for (int shift = 0; shift < 16; shift++) {
            GoppaCrypt x = new GoppaCrypt(0, shift);
            due.each("support", " of shift " + shift, x::support, -1, -1, 12, MIN, MAX);
        }
    }
}
