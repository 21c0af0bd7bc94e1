/** Promises 4 to 7: a test of its own for each sentence that names an edge. */
public final class AlgebraEdgesTest {
    private static final Due due = new Due("AlgebraEdgesTest");
    private static final int MIN = Inputs.MIN;
    private static final int MAX = Inputs.MAX;
    private static final int[] OUTSIDE_FIELD = {-1, 16, MIN, MAX};

    public static void main(String[] args) {
        due.sentence("Promise 4", "fieldMul(a, b) answers -1 if a .. is outside 0..15",
            AlgebraEdgesTest::firstFactorOutside);
        due.sentence("Promise 4", "fieldMul(a, b) answers -1 if .. b is outside 0..15",
            AlgebraEdgesTest::secondFactorOutside);
        due.sentence("Promise 4", "fieldMul(a, b) answers -1 if both are outside 0..15",
            AlgebraEdgesTest::bothFactorsOutside);
        due.sentence("Promise 4", "Otherwise it answers the product a*b in GF(16), a value in 0..15",
            AlgebraEdgesTest::productsInside);
        due.sentence("Promise 4", "It changes nothing", () -> Calls.changeNothing(due, "fieldMul"));
        due.sentence("Promise 4", "This product does not depend on A, B or SHIFT",
            AlgebraEdgesTest::productsAreTheSameForAll);
        due.sentence("Promise 5", "ringInverse(p) answers -1 if p is outside 0..255",
            AlgebraEdgesTest::inversesOutside);
        due.sentence("Promise 5", "ringInverse(p) answers -1 if .. p == 0", AlgebraEdgesTest::inverseOfZero);
        due.sentence("Promise 5", "Otherwise it answers the code of the unique q in R with p*q = 1; it lies "
            + "in 1..255", AlgebraEdgesTest::inversesInside);
        due.sentence("Promise 5", "It changes nothing", () -> Calls.changeNothing(due, "ringInverse"));
        due.sentence("Promise 6", "ringSqrt(p) answers -1 if p is outside 0..255",
            AlgebraEdgesTest::squareRootsOutside);
        due.sentence("Promise 6", "in particular ringSqrt(0) answers 0", AlgebraEdgesTest::squareRootOfZero);
        due.sentence("Promise 6", "Otherwise it answers the code of the unique q in R with q*q = p; it lies "
            + "in 0..255", AlgebraEdgesTest::squareRootsInside);
        due.sentence("Promise 6", "It changes nothing", () -> Calls.changeNothing(due, "ringSqrt"));
        due.sentence("Promise 7", "syndrome(w) answers -1 if w is outside 0..4095",
            AlgebraEdgesTest::syndromesOutside);
        due.sentence("Promise 7", "Otherwise it answers the code of S(w), a value in 0..255",
            AlgebraEdgesTest::syndromesInside);
        due.sentence("Promise 7", "It changes nothing", () -> Calls.changeNothing(due, "syndrome"));
        due.sentence("Terms", "S(0) = 0", AlgebraEdgesTest::zeroIsInTheCode);
        due.sentence("Promise 7", "syndrome(0) answers 0", AlgebraEdgesTest::syndromeOfZero);
        due.sentence("Promise 7", "The answer is 0 exactly when w is a word of C",
            AlgebraEdgesTest::syndromeIsZeroInTheCode);
        due.sentence("Promise 7", "The syndrome of an XOR of two words is the XOR of their syndromes",
            AlgebraEdgesTest::syndromeOfSums);
        due.end();
    }

    private static void product(GoppaCrypt x, int a, int b, int want) {
        due.is("fieldMul(" + a + ", " + b + ")", x.fieldMul(a, b), want);
    }

    private static void firstFactorOutside() {
        GoppaCrypt x = new GoppaCrypt(0, 2);
        for (int v : OUTSIDE_FIELD) {
            for (int b = 0; b < 16; b++) {
                product(x, v, b, -1);
            }
        }
    }

    private static void secondFactorOutside() {
        GoppaCrypt x = new GoppaCrypt(0, 2);
        for (int v : OUTSIDE_FIELD) {
            for (int a = 0; a < 16; a++) {
                product(x, a, v, -1);
            }
        }
    }

    private static void bothFactorsOutside() {
        GoppaCrypt x = new GoppaCrypt(0, 2);
        for (int a : OUTSIDE_FIELD) {
            for (int b : OUTSIDE_FIELD) {
                product(x, a, b, -1);
            }
        }
    }

    // By hand: 15 = z^12, so 15*15 = z^24 = z^9 = 10; and 8 = z^3 is the inverse of 15.
    private static void productsInside() {
        GoppaCrypt x = new GoppaCrypt(0, 2);
        product(x, 0, 0, 0);
        product(x, 0, 15, 0);
        product(x, 15, 0, 0);
        product(x, 1, 15, 15);
        product(x, 15, 1, 15);
        product(x, 8, 15, 1);
        product(x, 15, 8, 1);
        product(x, 15, 15, 10);
        for (int a = 0; a < 16; a++) {
            for (int b = 0; b < 16; b++) {
                product(x, a, b, Reference.fieldMul(a, b));
            }
        }
    }

    private static void productsAreTheSameForAll() {
        for (int poly : Inputs.rootlessPolys()) {
            GoppaCrypt x = new GoppaCrypt(poly, poly % 16);
            product(x, 15, 15, 10);
            product(x, 8, 15, 1);
            product(x, 0, 15, 0);
            product(x, 2, 8, 3);
        }
    }

    private static void inversesOutside() {
        for (Reference r : Inputs.references()) {
            due.each("ringInverse", r.name(), r.fresh()::ringInverse, -1, -1, 256, MIN, MAX);
        }
    }

    private static void inverseOfZero() {
        for (int poly : Inputs.rootlessPolys()) {
            due.is("ringInverse(0) of poly " + poly, new GoppaCrypt(poly, 0).ringInverse(0), -1);
        }
    }

    // By hand, in the ring of 24 = x^2+x+8: x*(x+1) = 8, and 15*8 = 1, so x times 15x+15 is 1.
    private static void inversesInside() {
        due.is("ringInverse(255) of poly 24", new GoppaCrypt(24, 0).ringInverse(255), 16);
        due.is("ringInverse(16) of poly 24", new GoppaCrypt(24, 0).ringInverse(16), 255);
        for (int poly : Inputs.rootlessPolys()) {
            GoppaCrypt x = new GoppaCrypt(poly, 0);
            Reference r = new Reference(poly, 0);
            due.is("ringInverse(1) of poly " + poly, x.ringInverse(1), 1);
            int last = x.ringInverse(255);
            due.holds("ringInverse(255) of poly " + poly + " is in 1..255, which", last >= 1 && last <= 255);
            due.is("255 times its inverse, poly " + poly, r.ringMul(255, last & 255), 1);
        }
    }

    private static void squareRootsOutside() {
        for (Reference r : Inputs.references()) {
            due.each("ringSqrt", r.name(), r.fresh()::ringSqrt, -1, -1, 256, MIN, MAX);
        }
    }

    private static void squareRootOfZero() {
        for (int poly : Inputs.rootlessPolys()) {
            due.is("ringSqrt(0) of poly " + poly, new GoppaCrypt(poly, 0).ringSqrt(0), 0);
        }
    }

    // By hand, in the ring of 24: x = x^2+8 = (x+10)^2 and 15 = 12^2, so the root of 15(x+1) is 12(x+11).
    private static void squareRootsInside() {
        due.is("ringSqrt(255) of poly 24", new GoppaCrypt(24, 0).ringSqrt(255), 205);
        for (int poly : Inputs.rootlessPolys()) {
            GoppaCrypt x = new GoppaCrypt(poly, 0);
            Reference r = new Reference(poly, 0);
            due.is("ringSqrt(1) of poly " + poly, x.ringSqrt(1), 1);
            int last = x.ringSqrt(255);
            due.holds("ringSqrt(255) of poly " + poly + " is in 0..255, which", last >= 0 && last <= 255);
            due.is("square of the root of 255, poly " + poly, r.ringMul(last & 255, last & 255), 255);
        }
    }

    private static void syndromesOutside() {
        for (Reference r : Inputs.references()) {
            due.each("syndrome", r.name(), r.fresh()::syndrome, -1, -1, 4096, MIN, MAX);
        }
    }

    private static void syndromesInside() {
        for (int poly : Inputs.rootlessPolys()) {
            for (int shift = 0; shift < 16; shift += 5) {
                GoppaCrypt x = new GoppaCrypt(poly, shift);
                Reference r = new Reference(poly, shift);
                int all = 0;
                for (int j = 0; j < 12; j++) {
                    all ^= r.inverse[16 + (shift + j) % 16];
                }
                String name = r.name();
                due.is("syndrome(1)" + name, x.syndrome(1), r.inverse[16 + shift]);
                due.is("syndrome(2048)" + name, x.syndrome(2048), r.inverse[16 + (shift + 11) % 16]);
                due.is("syndrome(4095)" + name, x.syndrome(4095), all);
            }
        }
    }

    // S is seen twice: in syndrome(), also after other words were asked for, and in what decrypt() makes of 0.
    private static void zeroIsInTheCode() {
        for (Reference r : Inputs.references()) {
            GoppaCrypt x = r.fresh();
            for (int w : new int[] {1, 2048, 4095, -1, 4096}) {
                x.syndrome(w);
                due.is("syndrome(0) after syndrome(" + w + ")" + r.name(), x.syndrome(0), 0);
            }
            x.setReceived(4095);
            x.setReceived(0);
            due.is("decrypt() of 0" + r.name(), x.decrypt(), 0);
            due.is("foundErrors() of 0" + r.name(), x.foundErrors(), 0);
        }
    }

    private static void syndromeOfZero() {
        for (int poly = 0; poly < 256; poly++) {
            for (int shift = 0; shift < 16; shift++) {
                due.is("syndrome(0) of (" + poly + ", " + shift + ")", new GoppaCrypt(poly, shift).syndrome(0), 0);
            }
        }
    }

    // Which words are in C is told by the reference, and by what encrypt() answers without errors.
    private static void syndromeIsZeroInTheCode() {
        for (Reference r : Inputs.references()) {
            GoppaCrypt x = r.fresh();
            int zeros = 0;
            for (int w = 0; w < 4096; w++) {
                zeros += x.syndrome(w) == 0 ? 1 : 0;
                due.is("1 for a zero syndrome" + r.name() + " of word", w, "",
                    x.syndrome(w) == 0 ? 1 : 0, r.code.contains(w) ? 1 : 0);
            }
            due.is("words with syndrome 0" + r.name(), zeros, 1 << x.dimension());
            for (int m = 0; m < r.code.size(); m++) {
                x.setMessage(m);
                due.is("syndrome of the codeword of " + m + r.name(), x.syndrome(x.encrypt()), 0);
            }
        }
    }

    private static void syndromeOfSums() {
        for (Reference r : Inputs.references()) {
            GoppaCrypt x = r.fresh();
            for (int w = 0; w < 4096; w++) {
                for (int v : new int[] {0, 1, 2048, 2730, 4095, w}) {
                    due.is("syndrome" + r.name() + " of " + v + " XOR", w, "", x.syndrome(w ^ v),
                        x.syndrome(w) ^ x.syndrome(v));
                }
            }
        }
    }
}
