import java.util.ArrayList;
import java.util.List;

/** Inputs that several tests share. */
final class Inputs {
    /** Outside every range of the document; small wrong values are the tests' own. */
    static final int[] FAR_OUTSIDE = {
        Integer.MIN_VALUE, Integer.MIN_VALUE + 1, -65536, -4096, -256, -17, -16, -2, -1,
        4096, 4097, 65536, 1 << 20, 1 << 30, Integer.MAX_VALUE - 1, Integer.MAX_VALUE
    };

    private Inputs() {
    }

    /** Every polynomial without a root: each stands for itself when it is the first candidate. */
    static List<Integer> rootlessPolys() {
        List<Integer> polys = new ArrayList<>();
        for (int c = 0; c < 256; c++) {
            if (!Reference.hasRoot(c / 16, c % 16)) {
                polys.add(c);
            }
        }
        return polys;
    }
}
