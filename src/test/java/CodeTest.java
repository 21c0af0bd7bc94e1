/** Promises 8 to 10: dimension, check rows, information positions; for every code there is. */
public final class CodeTest {
    private static final Due due = new Due("CodeTest");

    public static void main(String[] args) {
        for (int poly : Inputs.rootlessPolys()) {
            for (int shift = 0; shift < 16; shift++) {
                GoppaCrypt x = new GoppaCrypt(poly, shift);
                Reference r = new Reference(poly, shift);
                String name = " of (" + poly + ", " + shift + ")";
                due.is("words in the code" + name, 1 << x.dimension(), r.code.size());
                checkRows(name, x, r);
                infoPositions(name, x, r);
                rowsAndPositionsFit(name, x);
            }
        }
        due.end();
    }

    private static void checkRows(String name, GoppaCrypt x, Reference r) {
        due.is("rows in the reference" + name, r.checkRows.size(), 12 - r.dimension());
        for (int i = -3; i <= 15; i++) {
            int want = i >= 0 && i < 12 - r.dimension() ? r.checkRows.get(i) : -1;
            due.is("checkRow(" + i + ")" + name, x.checkRow(i), want);
        }
        for (int i : Inputs.FAR_OUTSIDE) {
            due.is("checkRow(" + i + ")" + name, x.checkRow(i), -1);
        }
    }

    private static void infoPositions(String name, GoppaCrypt x, Reference r) {
        for (int i = -3; i <= 15; i++) {
            int want = i >= 0 && i < r.dimension() ? r.infoPositions.get(i) : -1;
            due.is("infoPosition(" + i + ")" + name, x.infoPosition(i), want);
        }
        for (int i : Inputs.FAR_OUTSIDE) {
            due.is("infoPosition(" + i + ")" + name, x.infoPosition(i), -1);
        }
    }

    // Said over the answers alone, so that a fault of the reference would show as well.
    private static void rowsAndPositionsFit(String name, GoppaCrypt x) {
        int checkMask = 0;
        int before = -1;
        for (int i = 0; i < 12 - x.dimension(); i++) {
            int pivot = Integer.numberOfTrailingZeros(x.checkRow(i));
            due.holds("p_" + i + " is above the one before" + name, pivot > before && pivot < 12);
            before = pivot;
            checkMask |= 1 << pivot;
        }
        for (int i = 0; i < 12 - x.dimension(); i++) {
            int row = x.checkRow(i);
            due.is("check positions in row " + i + name, row & checkMask, Integer.lowestOneBit(row));
        }
        int infoMask = 0;
        for (int i = 0; i < x.dimension(); i++) {
            due.holds("q_" + i + " is above the one before" + name, infoMask >> x.infoPosition(i) == 0);
            infoMask |= 1 << x.infoPosition(i);
        }
        due.is("positions that are both or neither" + name, checkMask ^ infoMask, 4095);
    }
}
