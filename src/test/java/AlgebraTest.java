/** Promises 4 to 7: field product, inverse and square root in the ring, syndrome. */
public final class AlgebraTest {
    private static final Due due = new Due("AlgebraTest");

    public static void main(String[] args) {
        knownProducts();
        for (int poly : Inputs.rootlessPolys()) {
            for (int shift = 0; shift < 16; shift++) {
                GoppaCrypt x = new GoppaCrypt(poly, shift);
                Reference r = new Reference(poly, shift);
                String name = " of (" + poly + ", " + shift + ")";
                syndromes(name, x, r);
                if (shift % 5 == 0) {
                    products(name, x);
                    inverses(name, x, r);
                    squareRoots(name, x, r);
                    farOutside(name, x);
                }
            }
        }
        due.end();
    }

    // Powers of z, written out by hand from z^4 = z + 1.
    private static void knownProducts() {
        int[] powers = {1, 2, 4, 8, 3, 6, 12, 11, 5, 10, 7, 14, 15, 13, 9};
        GoppaCrypt x = new GoppaCrypt(0, 0);
        for (int i = 0; i < 15; i++) {
            for (int k = 0; k < 15; k++) {
                due.is("fieldMul(" + powers[i] + ", " + powers[k] + ")",
                    x.fieldMul(powers[i], powers[k]), powers[(i + k) % 15]);
            }
            due.is("fieldMul(0, " + powers[i] + ")", x.fieldMul(0, powers[i]), 0);
            due.is("fieldMul(" + powers[i] + ", 0)", x.fieldMul(powers[i], 0), 0);
        }
        due.is("fieldMul(0, 0)", x.fieldMul(0, 0), 0);
    }

    private static void products(String name, GoppaCrypt x) {
        for (int a = -3; a <= 18; a++) {
            for (int b = -3; b <= 18; b++) {
                boolean inside = a >= 0 && a <= 15 && b >= 0 && b <= 15;
                int want = inside ? Reference.fieldMul(a, b) : -1;
                due.is("fieldMul(" + a + ", " + b + ")" + name, x.fieldMul(a, b), want);
            }
        }
    }

    private static void inverses(String name, GoppaCrypt x, Reference r) {
        for (int p = -3; p <= 260; p++) {
            int want = p >= 1 && p <= 255 ? r.inverse[p] : -1;
            int got = x.ringInverse(p);
            due.is("ringInverse(" + p + ")" + name, got, want);
            if (want != -1 && got >= 0 && got <= 255) {
                due.is(p + " times its inverse" + name, r.ringMul(p, got), 1);
            }
        }
    }

    private static void squareRoots(String name, GoppaCrypt x, Reference r) {
        due.is("ringSqrt(0)" + name, x.ringSqrt(0), 0);
        for (int p = -3; p <= 260; p++) {
            int want = p >= 0 && p <= 255 ? r.squareRoot[p] : -1;
            int got = x.ringSqrt(p);
            due.is("ringSqrt(" + p + ")" + name, got, want);
            if (want != -1 && got >= 0 && got <= 255) {
                due.is("square of the root of " + p + name, r.ringMul(got, got), p);
            }
        }
    }

    private static void syndromes(String name, GoppaCrypt x, Reference r) {
        for (int w = 0; w < 4096; w++) {
            due.is("syndrome", w, name, x.syndrome(w), r.syndrome[w]);
        }
        for (int w : Inputs.FAR_OUTSIDE) {
            due.is("syndrome(" + w + ")" + name, x.syndrome(w), -1);
        }
    }

    private static void farOutside(String name, GoppaCrypt x) {
        for (int v : Inputs.FAR_OUTSIDE) {
            due.is("fieldMul(" + v + ", 1)" + name, x.fieldMul(v, 1), -1);
            due.is("fieldMul(1, " + v + ")" + name, x.fieldMul(1, v), -1);
            due.is("fieldMul(" + v + ", 0)" + name, x.fieldMul(v, 0), -1);
            due.is("fieldMul(0, " + v + ")" + name, x.fieldMul(0, v), -1);
            due.is("fieldMul(" + v + ", " + v + ")" + name, x.fieldMul(v, v), -1);
            due.is("ringInverse(" + v + ")" + name, x.ringInverse(v), -1);
            due.is("ringSqrt(" + v + ")" + name, x.ringSqrt(v), -1);
        }
    }
}
