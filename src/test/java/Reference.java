import java.util.ArrayList;
import java.util.List;

/**
 * The document's terms, found by search straight from their definitions, so that no short cut of
 * the program can hide here too.
 */
final class Reference {
    final int a;
    final int b;
    final int shift;
    final int[] inverse = new int[256];
    final int[] squareRoot = new int[256];
    final int[] syndrome = new int[4096];
    final List<Integer> code = new ArrayList<>();
    final List<Integer> dual = new ArrayList<>();
    final List<Integer> checkRows = new ArrayList<>();
    final List<Integer> checkPositions = new ArrayList<>();
    final List<Integer> infoPositions = new ArrayList<>();
    final int[] codewords;
    /** The word of weight at most 2 with this syndrome, or -1. */
    final int[] errorsOf = new int[256];

    Reference(int poly, int shift) {
        this.shift = Math.max(0, Math.min(15, shift));
        int candidate = Math.max(0, Math.min(255, poly));
        while (hasRoot(candidate / 16, candidate % 16)) {
            candidate = candidate == 255 ? 0 : candidate + 1;
        }
        a = candidate / 16;
        b = candidate % 16;
        findInversesAndRoots();
        findSyndromes();
        findCodeAndDual();
        findCheckRows();
        codewords = new int[code.size()];
        for (int c : code) {
            codewords[extract(c)] = c;
        }
        findErrors();
    }

    /** A new object of the class, with the code that this reference is of. */
    GoppaCrypt fresh() {
        return new GoppaCrypt(goppaPoly(), shift);
    }

    String name() {
        return " of (" + goppaPoly() + ", " + shift + ")";
    }

    int goppaPoly() {
        return a * 16 + b;
    }

    int dimension() {
        return Integer.numberOfTrailingZeros(code.size());
    }

    int support(int j) {
        return (shift + j) % 16;
    }

    private static final int[] PRODUCTS = new int[256];

    static {
        for (int x = 0; x < 16; x++) {
            for (int y = 0; y < 16; y++) {
                PRODUCTS[x * 16 + y] = longProduct(x, y);
            }
        }
    }

    static int fieldMul(int x, int y) {
        return PRODUCTS[x * 16 + y];
    }

    /** The whole polynomial product first, then the long division by z^4+z+1. */
    private static int longProduct(int x, int y) {
        int product = 0;
        for (int i = 0; i < 4; i++) {
            for (int k = 0; k < 4; k++) {
                product ^= ((x >> i) & (y >> k) & 1) << (i + k);
            }
        }
        for (int degree = 6; degree >= 4; degree--) {
            if (((product >> degree) & 1) == 1) {
                product ^= 19 << (degree - 4);
            }
        }
        return product;
    }

    static boolean hasRoot(int a, int b) {
        for (int z = 0; z < 16; z++) {
            if ((fieldMul(z, z) ^ fieldMul(a, z) ^ b) == 0) {
                return true;
            }
        }
        return false;
    }

    int ringMul(int p, int q) {
        int x2 = fieldMul(p >> 4, q >> 4);
        int x1 = fieldMul(p >> 4, q & 15) ^ fieldMul(p & 15, q >> 4);
        int x0 = fieldMul(p & 15, q & 15);
        return ((x1 ^ fieldMul(x2, a)) << 4) | (x0 ^ fieldMul(x2, b));
    }

    int extract(int word) {
        int m = 0;
        for (int i = 0; i < infoPositions.size(); i++) {
            m += ((word >> infoPositions.get(i)) & 1) << i;
        }
        return m;
    }

    /** What decrypt() finds in a received word: the errors, or -1. */
    int foundIn(int word) {
        return errorsOf[syndrome[word]];
    }

    int decodedFrom(int word) {
        return foundIn(word) == -1 ? -1 : extract(word ^ foundIn(word));
    }

    int weightIn(int word) {
        return foundIn(word) == -1 ? -1 : Integer.bitCount(foundIn(word));
    }

    /** The least word that decrypt() fails on. */
    int farWord() {
        int word = 0;
        while (foundIn(word) != -1) {
            word++;
        }
        return word;
    }

    private void findInversesAndRoots() {
        inverse[0] = -1;
        for (int p = 0; p < 256; p++) {
            squareRoot[ringMul(p, p)] = p;
            for (int q = 1; q < 256 && p > 0 && inverse[p] == 0; q++) {
                if (ringMul(p, q) == 1) {
                    inverse[p] = q;
                }
            }
        }
    }

    private void findSyndromes() {
        for (int w = 0; w < 4096; w++) {
            for (int j = 0; j < 12; j++) {
                if ((w >> j & 1) == 1) {
                    syndrome[w] ^= inverse[16 + support(j)];
                }
            }
        }
    }

    private void findCodeAndDual() {
        for (int w = 0; w < 4096; w++) {
            if (syndrome[w] == 0) {
                code.add(w);
            }
        }
        for (int v = 0; v < 4096; v++) {
            boolean even = true;
            for (int c : code) {
                even &= Integer.bitCount(v & c) % 2 == 0;
            }
            if (even) {
                dual.add(v);
            }
        }
    }

    /** The check positions are the lowest set positions of D's words; a row has just one of them. */
    private void findCheckRows() {
        int checkMask = 0;
        for (int v : dual) {
            checkMask |= Integer.lowestOneBit(v);
        }
        for (int j = 0; j < 12; j++) {
            (((checkMask >> j) & 1) == 1 ? checkPositions : infoPositions).add(j);
        }
        for (int p : checkPositions) {
            for (int v : dual) {
                if ((v & checkMask) == 1 << p) {
                    checkRows.add(v);
                }
            }
        }
    }

    private void findErrors() {
        java.util.Arrays.fill(errorsOf, -1);
        for (int e = 0; e < 4096; e++) {
            if (Integer.bitCount(e) <= 2) {
                if (errorsOf[syndrome[e]] != -1) {
                    throw new IllegalStateException("two error words with one syndrome");
                }
                errorsOf[syndrome[e]] = e;
            }
        }
    }
}
