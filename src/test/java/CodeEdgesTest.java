import java.util.ArrayList;
import java.util.List;

/** Promises 8 to 10: a test of its own for each sentence that names an edge. */
public final class CodeEdgesTest {
    private static final Due due = new Due("CodeEdgesTest");
    private static final int MIN = Inputs.MIN;
    private static final int MAX = Inputs.MAX;

    public static void main(String[] args) {
        due.sentence("Promise 8", "dimension() answers K, the number with |C| = 2^K",
            CodeEdgesTest::dimensionIsTheCodes);
        due.sentence("Promise 8", "It changes nothing", () -> Calls.changeNothing(due, "dimension"));
        due.sentence("Terms, promise 8", "K is fixed by the constructor and never changes: it is the same "
            + "after every call", CodeEdgesTest::dimensionNeverChanges);
        due.sentence("Terms", "Two distinct words of C differ in at least 5 positions",
            CodeEdgesTest::wordsLieFarApart);
        due.sentence("Promise 9", "checkRow(i) answers r_i if 0 <= i < 12-K", CodeEdgesTest::checkRowsInside);
        due.sentence("Promise 9", "For every other int i it answers -1", CodeEdgesTest::checkRowsOutside);
        due.sentence("Promise 9", "It changes nothing", () -> Calls.changeNothing(due, "checkRow"));
        due.sentence("Promise 9", "Each answered row is a nonzero word of D, and position p_i is set in it",
            CodeEdgesTest::checkRowsHoldTheirPosition);
        due.sentence("Promise 10", "infoPosition(i) answers q_i if 0 <= i < K", CodeEdgesTest::infoPositionsInside);
        due.sentence("Promise 10", "For every other int i it answers -1", CodeEdgesTest::infoPositionsOutside);
        due.sentence("Promise 10", "It changes nothing", () -> Calls.changeNothing(due, "infoPosition"));
        due.sentence("Promise 10", "The answered positions lie in 0..11, strictly increase with i, and are "
            + "exactly the positions that are not check positions", CodeEdgesTest::infoPositionsAreTheRest);
        due.end();
    }

    private static void dimensionIsTheCodes() {
        for (Reference r : Inputs.references()) {
            due.is("2 to the dimension()" + r.name(), 1 << r.fresh().dimension(), r.code.size());
        }
    }

    private static void dimensionNeverChanges() {
        for (State state : State.all()) {
            int k = state.r().dimension();
            GoppaCrypt throughAll = state.object();
            for (Calls.Call call : Calls.allBut("dimension")) {
                GoppaCrypt x = state.object();
                due.is("dimension() before " + call.text() + state.name(), x.dimension(), k);
                call.made().accept(x);
                due.is("dimension() after " + call.text() + state.name(), x.dimension(), k);
                call.made().accept(throughAll);
                due.is("dimension() after all up to " + call.text() + state.name(), throughAll.dimension(), k);
            }
        }
    }

    private static void wordsLieFarApart() {
        for (Reference r : Inputs.references()) {
            GoppaCrypt x = r.fresh();
            for (int m = 0; m < r.code.size(); m++) {
                for (int n = 0; n < m; n++) {
                    x.setMessage(m);
                    int word = x.encrypt();
                    x.setMessage(n);
                    due.holds("the codewords of " + m + " and " + n + r.name() + " differ in 5 positions, which",
                        Integer.bitCount(word ^ x.encrypt()) >= 5);
                }
            }
        }
    }

    private static void checkRowsInside() {
        due.is("checkRow(0) of (0, 2)", new GoppaCrypt(0, 2).checkRow(0), 513);
        for (Reference r : Inputs.references()) {
            int last = 11 - r.dimension();
            due.is("checkRow(0)" + r.name(), r.fresh().checkRow(0), r.checkRows.get(0));
            due.is("checkRow(" + last + ")" + r.name(), r.fresh().checkRow(last), r.checkRows.get(last));
        }
    }

    private static void checkRowsOutside() {
        for (Reference r : Inputs.references()) {
            GoppaCrypt x = r.fresh();
            int above = 12 - x.dimension();
            due.each("checkRow", r.name(), x::checkRow, -1, -1, above, above + 1, 11, 12, MIN, MAX);
        }
    }

    private static void checkRowsHoldTheirPosition() {
        for (Reference r : Inputs.references()) {
            GoppaCrypt x = r.fresh();
            for (int i = 0; i < 12 - r.dimension(); i++) {
                int row = x.checkRow(i);
                due.holds("row " + i + r.name() + " is a nonzero word, which", row > 0 && row <= 4095);
                due.holds("row " + i + r.name() + " is in D, which", r.dual.contains(row));
                due.is("p_" + i + r.name(), Integer.numberOfTrailingZeros(row), r.checkPositions.get(i));
            }
        }
    }

    private static void infoPositionsInside() {
        due.is("infoPosition(0) of (0, 2)", new GoppaCrypt(0, 2).infoPosition(0), 7);
        due.is("infoPosition(3) of (0, 2)", new GoppaCrypt(0, 2).infoPosition(3), 11);
        for (Reference r : Inputs.references()) {
            int last = r.dimension() - 1;
            due.is("infoPosition(0)" + r.name(), r.fresh().infoPosition(0), r.infoPositions.get(0));
            due.is("infoPosition(" + last + ")" + r.name(), r.fresh().infoPosition(last),
                r.infoPositions.get(last));
        }
    }

    private static void infoPositionsOutside() {
        for (Reference r : Inputs.references()) {
            GoppaCrypt x = r.fresh();
            int above = x.dimension();
            due.each("infoPosition", r.name(), x::infoPosition, -1, -1, above, above + 1, 11, 12, MIN, MAX);
        }
    }

    private static void infoPositionsAreTheRest() {
        for (Reference r : Inputs.references()) {
            GoppaCrypt x = r.fresh();
            List<Integer> rest = new ArrayList<>();
            for (int j = 0; j < 12; j++) {
                rest.add(j);
            }
            for (int i = 0; i < 12 - x.dimension(); i++) {
                rest.remove((Integer) Integer.numberOfTrailingZeros(x.checkRow(i)));
            }
            due.is("number of information positions" + r.name(), x.dimension(), rest.size());
            for (int i = 0; i < rest.size(); i++) {
                due.is("infoPosition(" + i + ")" + r.name(), x.infoPosition(i), rest.get(i));
            }
        }
    }
}
