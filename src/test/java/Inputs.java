import java.util.ArrayList;
import java.util.List;

/** Inputs that several tests share. */
final class Inputs {
    /** Outside every range of the document; small wrong values are the tests' own. */
    static final int[] FAR_OUTSIDE = {
        Integer.MIN_VALUE, Integer.MIN_VALUE + 1, -65536, -4096, -256, -17, -16, -2, -1,
        4096, 4097, 65536, 1 << 20, 1 << 30, Integer.MAX_VALUE - 1, Integer.MAX_VALUE
    };

    static final int MIN = Integer.MIN_VALUE;
    static final int MAX = Integer.MAX_VALUE;

    /** Arguments of the objects that stand for all where a test does not go over every code. */
    static final int[][] OBJECTS = {{0, 2}, {255, 15}, {100, 7}, {24, 0}, {180, 11}};

    private Inputs() {
    }

    static List<Reference> references() {
        List<Reference> references = new ArrayList<>();
        for (int[] object : OBJECTS) {
            references.add(new Reference(object[0], object[1]));
        }
        return references;
    }

    /** The 79 words of weight at most 2. */
    static List<Integer> errorMasks() {
        List<Integer> masks = new ArrayList<>();
        for (int word = 0; word < 4096; word++) {
            if (Integer.bitCount(word) <= 2) {
                masks.add(word);
            }
        }
        return masks;
    }

    /** Every polynomial without a root: each stands for itself when it is the first candidate. */
    static List<Integer> rootlessPolys() {
        List<Integer> polys = new ArrayList<>();
        for (int c = 0; c < 256; c++) {
            if (!Reference.hasRoot(c / 16, c % 16)) {
                polys.add(c);
            }
        }
        return polys;
    }
}
