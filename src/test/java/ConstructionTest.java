/** Promises 1 to 3: construction and starting state, the Goppa polynomial, support elements. */
public final class ConstructionTest {
    private static final Due due = new Due("ConstructionTest");

    public static void main(String[] args) {
        everyPolyTakesTheFirstRootlessCandidate();
        knownPolys();
        searchEndsAt255AtTheLatest();
        polyIsClamped();
        shiftIsClamped();
        startingState();
        supportInsideAndOutside();
        due.end();
    }

    private static void everyPolyTakesTheFirstRootlessCandidate() {
        for (int poly = 0; poly < 256; poly++) {
            int want = poly;
            while (Reference.hasRoot(want / 16, want % 16)) {
                want = (want + 1) % 256;
            }
            due.is("goppaPoly() of poly " + poly, new GoppaCrypt(poly, 0).goppaPoly(), want);
            due.is("goppaPoly() of poly " + poly + ", shift 15", new GoppaCrypt(poly, 15).goppaPoly(), want);
        }
    }

    // Worked out by hand: x^2+x+B has no root just when the trace of B is 1, which 8 is the least to have.
    private static void knownPolys() {
        due.is("goppaPoly() of poly 0", new GoppaCrypt(0, 0).goppaPoly(), 24);
        due.is("goppaPoly() of poly 23", new GoppaCrypt(23, 0).goppaPoly(), 24);
        due.is("goppaPoly() of poly 24", new GoppaCrypt(24, 0).goppaPoly(), 24);
        due.is("goppaPoly() of poly 25", new GoppaCrypt(25, 0).goppaPoly(), 25);
    }

    // 255 itself has no root, so a search that starts anywhere ends at 255 at the latest: the step
    // from 255 to 0 is never taken, and all that can be seen of it is that 255 is kept.
    private static void searchEndsAt255AtTheLatest() {
        int lastBefore = 254;
        while (Reference.hasRoot(lastBefore / 16, lastBefore % 16)) {
            lastBefore--;
        }
        due.is("goppaPoly() of the last rootless poly before 255",
            new GoppaCrypt(lastBefore, 0).goppaPoly(), lastBefore);
        for (int poly = lastBefore + 1; poly < 256; poly++) {
            due.is("goppaPoly() of poly " + poly, new GoppaCrypt(poly, 0).goppaPoly(), 255);
        }
    }

    private static void polyIsClamped() {
        for (int poly : new int[] {Integer.MIN_VALUE, Integer.MIN_VALUE + 25, -256, -231, -1}) {
            sameObject(poly, 3, 0, 3);
        }
        for (int poly : new int[] {256, 257, 281, 511, 65536, Integer.MAX_VALUE - 1, Integer.MAX_VALUE}) {
            sameObject(poly, 3, 255, 3);
        }
    }

    private static void shiftIsClamped() {
        for (int shift : new int[] {Integer.MIN_VALUE, Integer.MIN_VALUE + 5, -16, -11, -1}) {
            sameObject(40, shift, 40, 0);
        }
        for (int shift : new int[] {16, 17, 21, 31, 65536, Integer.MAX_VALUE - 1, Integer.MAX_VALUE}) {
            sameObject(40, shift, 40, 15);
        }
        sameObject(Integer.MIN_VALUE, Integer.MIN_VALUE, 0, 0);
        sameObject(Integer.MAX_VALUE, Integer.MAX_VALUE, 255, 15);
        sameObject(Integer.MIN_VALUE, Integer.MAX_VALUE, 0, 15);
        sameObject(Integer.MAX_VALUE, Integer.MIN_VALUE, 255, 0);
    }

    private static void sameObject(int poly, int shift, int clampedPoly, int clampedShift) {
        String name = "(" + poly + ", " + shift + ")";
        GoppaCrypt x = new GoppaCrypt(poly, shift);
        Reference r = new Reference(clampedPoly, clampedShift);
        due.is("goppaPoly() of " + name, x.goppaPoly(), r.goppaPoly());
        due.is("dimension() of " + name, x.dimension(), r.dimension());
        for (int j = 0; j < 12; j++) {
            due.is("support(" + j + ") of " + name, x.support(j), (clampedShift + j) % 16);
            due.is("syndrome(" + (1 << j) + ") of " + name, x.syndrome(1 << j), r.syndrome[1 << j]);
        }
        for (int i = 0; i < r.checkRows.size(); i++) {
            due.is("checkRow(" + i + ") of " + name, x.checkRow(i), r.checkRows.get(i));
        }
    }

    private static void startingState() {
        for (int poly = 0; poly < 256; poly += 5) {
            for (int shift = 0; shift < 16; shift++) {
                String name = " on a new (" + poly + ", " + shift + ")";
                GoppaCrypt x = new GoppaCrypt(poly, shift);
                due.is("decodedMessage()" + name, x.decodedMessage(), -1);
                due.is("foundErrors()" + name, x.foundErrors(), -1);
                due.is("decrypt()" + name, x.decrypt(), 0);
                due.is("decodedMessage() after decrypt()" + name, x.decodedMessage(), 0);
                due.is("foundErrors() after decrypt()" + name, x.foundErrors(), 0);
                due.is("encrypt()" + name, x.encrypt(), 0);
            }
        }
        // The message and the error mask start at 0 each, not merely with a sum of 0.
        GoppaCrypt x = new GoppaCrypt(0, 2);
        x.setErrors(1);
        due.is("encrypt() with message 0 as it starts", x.encrypt(), 1);
        GoppaCrypt y = new GoppaCrypt(0, 2);
        y.setMessage(5);
        due.is("encrypt() with error mask 0 as it starts", y.encrypt(), 1422);
    }

    private static void supportInsideAndOutside() {
        for (int shift = 0; shift < 16; shift++) {
            GoppaCrypt x = new GoppaCrypt(100, shift);
            for (int j = -40; j <= 40; j++) {
                int want = j >= 0 && j <= 11 ? (shift + j) % 16 : -1;
                due.is("support(" + j + ") of shift " + shift, x.support(j), want);
            }
            for (int j : Inputs.FAR_OUTSIDE) {
                due.is("support(" + j + ") of shift " + shift, x.support(j), -1);
            }
        }
    }
}
