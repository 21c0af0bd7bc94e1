/** A toy code-based cipher over a binary Goppa code of length 12 that corrects two bit errors. */
public final class GoppaCrypt {
    public static final int N = 12;
    public static final int T = 2;
    public static final int M = 4;
    public static final int FIELD_POLY = 19;
    public static final int MAX_WORD = 4095;
    public static final int FAIL = -1;

    private static final int FIELD_SIZE = 16;
    private static final int RING_SIZE = 256;
    private static final int RING_BITS = 8;
    private static final int CODE_OF_X = 16;

    private final int linearTerm;
    private final int constantTerm;
    private final int firstSupport;

    private final int[] positionSyndromes = new int[N];
    private final int[] rows = new int[RING_BITS];
    private final int[] checkPositions = new int[RING_BITS];
    private final int[] infoPositions = new int[N];
    private int checkCount;
    private int infoCount;

    private int message;
    private int errorMask;
    private int received;
    private int decoded;
    private int found;

    public GoppaCrypt(int poly, int shift) {
        int firstCandidate = clamp(poly, RING_SIZE - 1);
        int chosen = firstWithoutRoot(firstCandidate);
        linearTerm = chosen / FIELD_SIZE;
        constantTerm = chosen % FIELD_SIZE;
        firstSupport = clamp(shift, FIELD_SIZE - 1);
        fillPositionSyndromes();
        fillRows();
        reduceRows();
        message = 0;
        errorMask = 0;
        received = 0;
        decoded = FAIL;
        found = FAIL;
    }

    public int goppaPoly() {
        return linearTerm * FIELD_SIZE + constantTerm;
    }

    public int support(int j) {
        if (j < 0 || j >= N) {
            return FAIL;
        }
        return supportAt(j);
    }

    public int fieldMul(int a, int b) {
        if (a < 0 || a >= FIELD_SIZE || b < 0 || b >= FIELD_SIZE) {
            return FAIL;
        }
        return fieldProduct(a, b);
    }

    public int ringInverse(int p) {
        if (p <= 0 || p >= RING_SIZE) {
            return FAIL;
        }
        return inverseOf(p);
    }

    public int ringSqrt(int p) {
        if (p < 0 || p >= RING_SIZE) {
            return FAIL;
        }
        return squareRootOf(p);
    }

    public int syndrome(int w) {
        if (w < 0 || w > MAX_WORD) {
            return FAIL;
        }
        return syndromeOf(w);
    }

    public int dimension() {
        return infoCount;
    }

    public int checkRow(int i) {
        if (i < 0 || i >= checkCount) {
            return FAIL;
        }
        return rows[i];
    }

    public int infoPosition(int i) {
        if (i < 0 || i >= infoCount) {
            return FAIL;
        }
        return infoPositions[i];
    }

    public boolean setMessage(int m) {
        if (m < 0 || m >= (1 << infoCount)) {
            return false;
        }
        message = m;
        return true;
    }

    public boolean setErrors(int e) {
        if (e < 0 || e > MAX_WORD || weightOf(e) > T) {
            return false;
        }
        errorMask = e;
        return true;
    }

    public int encrypt() {
        received = codewordOf(message) ^ errorMask;
        return received;
    }

    public boolean setReceived(int w) {
        if (w < 0 || w > MAX_WORD) {
            return false;
        }
        received = w;
        return true;
    }

    public int decrypt() {
        int target = syndromeOf(received);
        found = errorsWithSyndrome(target);
        if (found == FAIL) {
            decoded = FAIL;
            return FAIL;
        }
        decoded = messageIn(received ^ found);
        return weightOf(found);
    }

    public int decodedMessage() {
        return decoded;
    }

    public int foundErrors() {
        return found;
    }

    private static int clamp(int value, int greatest) {
        if (value < 0) {
            return 0;
        }
        return value > greatest ? greatest : value;
    }

    private static int firstWithoutRoot(int firstCandidate) {
        for (int tries = 0; tries < RING_SIZE; tries++) {
            int candidate = (firstCandidate + tries) % RING_SIZE;
            if (!hasRoot(candidate)) {
                return candidate;
            }
        }
        // Never reached: 120 of the 256 monic quadratics over GF(16) have no root.
        return firstCandidate;
    }

    private static boolean hasRoot(int candidate) {
        for (int z = 0; z < FIELD_SIZE; z++) {
            int square = fieldProduct(z, z);
            int linear = fieldProduct(candidate / FIELD_SIZE, z);
            if ((square ^ linear ^ (candidate % FIELD_SIZE)) == 0) {
                return true;
            }
        }
        return false;
    }

    private static int fieldProduct(int a, int b) {
        int product = 0;
        int multiple = a;
        for (int bit = 0; bit < M; bit++) {
            if (((b >> bit) & 1) != 0) {
                product ^= multiple;
            }
            multiple <<= 1;
            if (multiple >= FIELD_SIZE) {
                multiple ^= FIELD_POLY;
            }
        }
        return product;
    }

    private int ringProduct(int p, int q) {
        int p1 = p / FIELD_SIZE;
        int p0 = p % FIELD_SIZE;
        int q1 = q / FIELD_SIZE;
        int q0 = q % FIELD_SIZE;
        int quadratic = fieldProduct(p1, q1);
        int linear = fieldProduct(p1, q0) ^ fieldProduct(p0, q1) ^ fieldProduct(quadratic, linearTerm);
        int constant = fieldProduct(p0, q0) ^ fieldProduct(quadratic, constantTerm);
        return linear * FIELD_SIZE + constant;
    }

    // R is a field of 256 elements, so p^255 = 1 and p^254 = p^2 * p^4 * ... * p^128 is the inverse.
    private int inverseOf(int p) {
        int power = p;
        int inverse = 1;
        for (int step = 1; step < RING_BITS; step++) {
            power = ringProduct(power, power);
            inverse = ringProduct(inverse, power);
        }
        return inverse;
    }

    // p^256 = p in R, so p^128 is the square root.
    private int squareRootOf(int p) {
        int root = p;
        for (int step = 1; step < RING_BITS; step++) {
            root = ringProduct(root, root);
        }
        return root;
    }

    private int supportAt(int position) {
        return (firstSupport + position) % FIELD_SIZE;
    }

    private void fillPositionSyndromes() {
        for (int position = 0; position < N; position++) {
            int alpha = supportAt(position);
            positionSyndromes[position] = inverseOf(CODE_OF_X + alpha);
        }
    }

    // A word is in C when each bit of its syndrome is 0, so one row for each syndrome bit spans D.
    private void fillRows() {
        for (int bit = 0; bit < RING_BITS; bit++) {
            int row = 0;
            for (int position = 0; position < N; position++) {
                row |= ((positionSyndromes[position] >> bit) & 1) << position;
            }
            rows[bit] = row;
        }
    }

    // Positions are taken from the lowest up, so that each row's pivot is its lowest set position.
    private void reduceRows() {
        checkCount = 0;
        infoCount = 0;
        for (int position = 0; position < N; position++) {
            int pivotRow = unusedRowWith(position);
            if (pivotRow == FAIL) {
                infoPositions[infoCount] = position;
                infoCount++;
            } else {
                swapRows(pivotRow, checkCount);
                clearInOtherRows(position, checkCount);
                checkPositions[checkCount] = position;
                checkCount++;
            }
        }
    }

    private int unusedRowWith(int position) {
        for (int i = checkCount; i < RING_BITS; i++) {
            if (((rows[i] >> position) & 1) != 0) {
                return i;
            }
        }
        return FAIL;
    }

    private void swapRows(int i, int h) {
        int kept = rows[i];
        rows[i] = rows[h];
        rows[h] = kept;
    }

    private void clearInOtherRows(int position, int pivotRow) {
        for (int i = 0; i < RING_BITS; i++) {
            if (i != pivotRow && ((rows[i] >> position) & 1) != 0) {
                rows[i] ^= rows[pivotRow];
            }
        }
    }

    private static int weightOf(int word) {
        int weight = 0;
        for (int position = 0; position < N; position++) {
            weight += (word >> position) & 1;
        }
        return weight;
    }

    private int syndromeOf(int word) {
        int sum = 0;
        for (int position = 0; position < N; position++) {
            if (((word >> position) & 1) != 0) {
                sum ^= positionSyndromes[position];
            }
        }
        return sum;
    }

    // Each check row holds one check position alone, so the information bits decide that position.
    private int codewordOf(int m) {
        int infoWord = 0;
        for (int i = 0; i < infoCount; i++) {
            infoWord |= ((m >> i) & 1) << infoPositions[i];
        }
        int codeword = infoWord;
        for (int i = 0; i < checkCount; i++) {
            int parity = weightOf(rows[i] & infoWord) & 1;
            codeword |= parity << checkPositions[i];
        }
        return codeword;
    }

    private int messageIn(int codeword) {
        int m = 0;
        for (int i = 0; i < infoCount; i++) {
            m |= ((codeword >> infoPositions[i]) & 1) << i;
        }
        return m;
    }

    // The same position taken twice stands for a single error.
    private int errorsWithSyndrome(int target) {
        if (target == 0) {
            return 0;
        }
        for (int first = 0; first < N; first++) {
            for (int second = first; second < N; second++) {
                int errors = (1 << first) | (1 << second);
                if (syndromeOf(errors) == target) {
                    return errors;
                }
            }
        }
        return FAIL;
    }
}
