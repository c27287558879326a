import java.io.IOException;
import java.util.regex.Pattern;

/** The sentences of promises 1 to 5, each with a test of its own: a new object, rows. */
public final class RowsTest extends Sentences {
    public static void main(String[] args) throws IOException {
        rows();
        runAll(Pattern.compile("Promise [1-5]"));
    }

    // ---- promises 1 to 5

    private static void rows() {
        section("Promise 1");
        sentence("No HALL.", RowsTest::newObject);
        section("Promise 2");
        sentence("A ROW of a LANE with n ITEMS", RowsTest::rowOfALane);
        sentence("in place of what is there:", RowsTest::rowInPlace);
        sentence("what is there: n.", RowsTest::rowAnswers);
        sentence("BAD: ROW", RowsTest::rowOfNoRow);
        sentence("LANE, n above 40;", RowsTest::rowOfNoLane);
        sentence("n above 40;", RowsTest::rowTooLong);
        sentence("SIZE.", RowsTest::rowOfFewerThanNone);
        section("Promise 3");
        sentence("ITEM i becomes v", RowsTest::itemBecomes);
        sentence("its lowest bits, as many as the LANE has (read with their sign):", RowsTest::lowestBits);
        sentence("what it is then.", RowsTest::setAnswers);
        sentence("BAD: ROW;", RowsTest::setOfNoRow);
        sentence("NULL;", RowsTest::setOfMissing);
        sentence("PLACE.", RowsTest::setOfNoPlace);
        section("Promise 4");
        sentence("n ITEMS of a from i on come to b from j on", RowsTest::itemsCome);
        sentence("as they were ahead:", RowsTest::asTheyWereAhead);
        sentence("as they were ahead: n.", RowsTest::copyAnswers);
        sentence("BAD: ROWS;", RowsTest::copyOfNoRows);
        sentence("NULL;", RowsTest::copyOfMissing);
        sentence("STORE;", RowsTest::copyOfTwoLanes);
        sentence("PLACE (i, j, n below 0", RowsTest::copyBelowZero);
        sentence("or beyond an end).", RowsTest::copyBeyondAnEnd);
        section("Promise 5");
        sentence("A ROW is missing from now on:", RowsTest::rowIsMissing);
        sentence("how many ITEMS it had.", RowsTest::dropAnswers);
        sentence("BAD;", RowsTest::dropOfNoRow);
        sentence("NULL.", RowsTest::dropOfMissing);
    }

    private static void newObject() {
        FistTrains x = new FistTrains();
        for (int what = 0; what <= 6; what++) {
            due("count(" + what + ")", x.count(what), 0);
        }
        due("kind(0)", x.kind(0), BAD);
        due("player(0, 0)", x.player(0, 0), BAD);
        due("round()", x.round(), STATE);
        due("hands(0)", x.hands(0), STATE);
        due("left(0)", x.left(0), STATE);
        due("longest(0, 0)", x.longest(0, 0), STATE);
        due("image(0)", x.image(0), STATE);
        due("restore(0)", x.restore(0), STATE);
        due("restore(1)", x.restore(1), STATE);
        due("undo()", x.undo(), STATE);
        due("fault()", x.fault(), 0);
        due("status()", x.status(), 0);
        due("trace(0)", x.trace(0), NONE);
    }

    private static void rowOfALane() {
        for (int lane = 0; lane < 3; lane++) {
            for (int n : new int[] {0, 1, 39, 40}) {
                FistTrains x = new FistTrains();
                due("row(5, " + lane + ", " + n + ")", x.row(5, lane, n), n);
                due("count(0)", x.count(0), 1);
                due("set behind its end", x.set(5, n, 1), PLACE);
                due("set of the last", x.set(5, n - 1, 1), n == 0 ? PLACE : 1);
                due("drop(5)", x.drop(5), n);
            }
        }
    }

    private static void rowInPlace() {
        FistTrains x = hallOf("boy1 boy2");
        rowOf(x, 0, 0, 1, 1, 1, 1);
        rowOf(x, 1, 0, 2, 2);
        due("row(0, 2, 2), shorter", x.row(0, 2, 2), 2);
        due("count(0)", x.count(0), 2);
        due("its end", x.set(0, 2, 0), PLACE);
        due("hands(0), 0 anew", x.hands(0), 2);
        due("its lane", x.set(0, 0, MOST), MOST);
        due("row(0, 1, 40), longer", x.row(0, 1, 40), 40);
        due("its lane", x.set(0, 39, 65535), -1);
        due("hands(0), 0 anew", x.hands(0), 0);
        due("row(0, 1, 0), none", x.row(0, 1, 0), 0);
        due("its end", x.set(0, 0, 0), PLACE);
        due("the other one stays", x.hands(1), 2);
        due("hands", hands(x), "22");
    }

    private static void rowAnswers() {
        FistTrains x = new FistTrains();
        for (int n = 0; n <= 40; n++) {
            due("row(7, 1, " + n + ")", x.row(7, 1, n), n);
        }
        for (int row = 0; row < 8; row++) {
            due("row(" + row + ", 0, 3)", x.row(row, 0, 3), 3);
        }
        due("count(0)", x.count(0), 8);
    }

    private static void rowOfNoRow() {
        for (int row : NO_ROWS) {
            refused("row(" + row + ", 0, 1)", BAD, x -> x.row(row, 0, 1));
            refused("row(" + row + ", 0, -1)", BAD, x -> x.row(row, 0, -1));
        }
    }

    private static void rowOfNoLane() {
        for (int lane : new int[] {-1, 3, 4, LEAST, MOST}) {
            refused("row(0, " + lane + ", 1)", BAD, x -> x.row(0, lane, 1));
            refused("row(3, " + lane + ", -1)", BAD, x -> x.row(3, lane, -1));
        }
    }

    private static void rowTooLong() {
        due("row(0, 0, 40)", busy().row(0, 0, 40), 40);
        for (int n : new int[] {41, 42, 320, MOST}) {
            refused("row(0, 0, " + n + ")", BAD, x -> x.row(0, 0, n));
            refused("row(3, 2, " + n + ")", BAD, x -> x.row(3, 2, n));
        }
    }

    private static void rowOfFewerThanNone() {
        due("row(0, 0, 0)", busy().row(0, 0, 0), 0);
        for (int n : new int[] {-1, -40, -41, LEAST}) {
            refused("row(0, 0, " + n + ")", SIZE, x -> x.row(0, 0, n));
            refused("row(7, 2, " + n + ")", SIZE, x -> x.row(7, 2, n));
        }
    }

    private static void itemBecomes() {
        FistTrains x = hallOf("boy0 boy0 boy0");
        x.row(0, 0, 3);
        due("set(0, 0, 1)", x.set(0, 0, 1), 1);
        due("set(0, 2, 2)", x.set(0, 2, 2), 2);
        x.hands(0);
        due("hands", hands(x), "102");
        due("set(0, 2, 0)", x.set(0, 2, 0), 0);
        x.hands(0);
        due("hands", hands(x), "100");
        due("a byte is 1", x.set(0, 1, 257), 1);
        due("a byte is 2", x.set(0, 2, -254), 2);
        x.hands(0);
        due("hands", hands(x), "112");
    }

    private static void lowestBits() {
        FistTrains x = new FistTrains();
        x.row(0, 0, 1);
        x.row(1, 1, 1);
        x.row(2, 2, 1);
        int[] numbers = {0, 1, -1, 127, 128, 129, -128, -129, 255, 256, -255, -256, -257, 32767, 32768, 32769, -32768,
            -32769, 65535, 65536, -65536, -65537, 8388607, 16777216, LEAST, LEAST + 1, MOST, MOST - 1};
        for (int v : numbers) {
            due("byte " + v, x.set(0, 0, v), (int) (byte) v);
            due("short " + v, x.set(1, 0, v), (int) (short) v);
            due("int " + v, x.set(2, 0, v), v);
        }
    }

    private static void setAnswers() {
        FistTrains x = new FistTrains();
        x.row(4, 0, 40);
        due("set(4, 0, 200)", x.set(4, 0, 200), -56);
        due("set(4, 39, -5)", x.set(4, 39, -5), -5);
        due("set(4, 39, 7), not what it was", x.set(4, 39, 7), 7);
    }

    private static void setOfNoRow() {
        for (int row : NO_ROWS) {
            refused("set(" + row + ", 0, 1)", BAD, x -> x.set(row, 0, 1));
            refused("set(" + row + ", -1, 1)", BAD, x -> x.set(row, -1, 1));
        }
    }

    private static void setOfMissing() {
        for (int row = 3; row < 7; row++) {
            int missing = row;
            refused("set(" + row + ", 0, 1)", NULL, x -> x.set(missing, 0, 1));
            refused("set(" + row + ", -1, 1)", NULL, x -> x.set(missing, -1, 1));
        }
        FistTrains x = busy();
        x.drop(0);
        due("set of a dropped one", x.set(0, 0, 1), NULL);
    }

    private static void setOfNoPlace() {
        due("set of the last", busy().set(0, 4, 1), 1);
        for (int i : new int[] {-1, 5, 39, 40, 320, LEAST, MOST}) {
            refused("set(0, " + i + ", 1)", PLACE, x -> x.set(0, i, 1));
            refused("set(2, " + i + ", 1)", PLACE, x -> x.set(2, i, 1));
        }
        refused("set(7, 0, 1)", PLACE, x -> x.set(7, 0, 1));
    }

    private static void itemsCome() {
        for (int lane = 0; lane < 3; lane++) {
            FistTrains x = hallOf("boy0 boy0 boy0 boy0");
            rowOf(x, 0, lane, 1, 2, 0, 1, 2);
            rowOf(x, 1, lane, 0, 0, 0, 0);
            due("copy(0, 1, 1, 0, 2)", x.copy(0, 1, 1, 0, 2), 2);
            x.hands(1);
            due("hands", hands(x), "2000");
            due("copy(0, 3, 1, 2, 2)", x.copy(0, 3, 1, 2, 2), 2);
            x.hands(1);
            due("hands", hands(x), "2012");
            x.hands(0);
            due("what it comes from stays", hands(x), "1201");
        }
        FistTrains ints = hallOf("boy0");
        rowOf(ints, 0, 2, 70001);
        rowOf(ints, 1, 2, 0);
        ints.copy(0, 0, 1, 0, 1);
        due("a whole ITEM comes", ints.hands(1), BAD);
    }

    private static void asTheyWereAhead() {
        FistTrains x = hallOf("boy0 boy0 boy0 boy0");
        rowOf(x, 0, 1, 1, 2, 0, 1);
        x.copy(0, 0, 0, 1, 3);
        x.hands(0);
        due("one on", hands(x), "1120");
        rowOf(x, 0, 1, 1, 2, 0, 1);
        x.copy(0, 1, 0, 0, 3);
        x.hands(0);
        due("one back", hands(x), "2011");
        rowOf(x, 0, 1, 1, 2, 0, 1);
        x.copy(0, 0, 0, 2, 2);
        x.hands(0);
        due("two on", hands(x), "1212");
        x.copy(0, 0, 0, 0, 4);
        x.hands(0);
        due("onto itself", hands(x), "1212");
    }

    private static void copyAnswers() {
        FistTrains x = new FistTrains();
        x.row(0, 0, 40);
        x.row(1, 0, 40);
        for (int n = 0; n <= 40; n++) {
            due("copy(0, 0, 1, 0, " + n + ")", x.copy(0, 0, 1, 0, n), n);
        }
    }

    private static void copyOfNoRows() {
        for (int row : NO_ROWS) {
            refused("copy(" + row + ", 0, 0, 0, 1)", BAD, x -> x.copy(row, 0, 0, 0, 1));
            refused("copy(0, 0, " + row + ", 0, 1)", BAD, x -> x.copy(0, 0, row, 0, 1));
            refused("copy(" + row + ", 0, 3, 0, 1)", BAD, x -> x.copy(row, 0, 3, 0, 1));
            refused("copy(3, 0, " + row + ", 0, -1)", BAD, x -> x.copy(3, 0, row, 0, -1));
        }
    }

    private static void copyOfMissing() {
        refused("copy(3, 0, 0, 0, 1)", NULL, x -> x.copy(3, 0, 0, 0, 1));
        refused("copy(0, 0, 3, 0, 1)", NULL, x -> x.copy(0, 0, 3, 0, 1));
        refused("copy(3, 0, 4, 0, 0)", NULL, x -> x.copy(3, 0, 4, 0, 0));
        refused("copy(3, 0, 3, 0, 0)", NULL, x -> x.copy(3, 0, 3, 0, 0));
        refused("copy(3, -1, 0, 0, 1)", NULL, x -> x.copy(3, -1, 0, 0, 1));
        refused("copy(0, -1, 3, 0, 1)", NULL, x -> x.copy(0, -1, 3, 0, 1));
    }

    private static void copyOfTwoLanes() {
        refused("copy(0, 0, 1, 0, 1)", STORE, x -> x.copy(0, 0, 1, 0, 1));
        refused("copy(1, 0, 0, 0, 1)", STORE, x -> x.copy(1, 0, 0, 0, 1));
        refused("copy(1, 0, 2, 0, 1)", STORE, x -> x.copy(1, 0, 2, 0, 1));
        refused("copy(0, 0, 2, 0, 0)", STORE, x -> x.copy(0, 0, 2, 0, 0));
        refused("copy(0, -1, 2, 0, 1)", STORE, x -> x.copy(0, -1, 2, 0, 1));
        refused("copy(0, 0, 2, 0, 41)", STORE, x -> x.copy(0, 0, 2, 0, 41));
    }

    private static FistTrains withRowsOf(int a, int b) {
        FistTrains x = hallOf("boy0 boy0");
        x.row(0, 0, a);
        x.row(1, 0, b);
        x.drop(5);
        return x;
    }

    private static void copyDue(int a, int b, int i, int j, int n, int want) {
        String call = "copy(0, " + i + ", 1, " + j + ", " + n + ") of " + a + " and " + b;
        if (want == PLACE) {
            refused(() -> withRowsOf(a, b), call, PLACE, x -> x.copy(0, i, 1, j, n));
        } else {
            due(call, withRowsOf(a, b).copy(0, i, 1, j, n), want);
        }
    }

    private static void copyBelowZero() {
        copyDue(4, 6, 0, 0, 0, 0);
        for (int below : new int[] {-1, -2, -40, LEAST}) {
            copyDue(4, 6, below, 0, 1, PLACE);
            copyDue(4, 6, 0, below, 1, PLACE);
            copyDue(4, 6, 0, 0, below, PLACE);
            copyDue(4, 6, below, 0, 0, PLACE);
            copyDue(4, 6, 0, below, 0, PLACE);
            copyDue(4, 6, 4, 6, below, PLACE);
        }
    }

    private static void copyBeyondAnEnd() {
        copyDue(4, 6, 0, 0, 4, 4);
        copyDue(4, 6, 0, 0, 5, PLACE);
        copyDue(4, 6, 0, 2, 4, 4);
        copyDue(4, 6, 0, 3, 4, PLACE);
        copyDue(4, 6, 1, 0, 4, PLACE);
        copyDue(6, 4, 0, 0, 5, PLACE);
        copyDue(6, 4, 2, 0, 4, 4);
        copyDue(6, 4, 3, 0, 4, PLACE);
        copyDue(4, 6, 4, 6, 0, 0);
        copyDue(4, 6, 5, 6, 0, PLACE);
        copyDue(4, 6, 4, 7, 0, PLACE);
        copyDue(0, 0, 0, 0, 0, 0);
        copyDue(0, 0, 0, 0, 1, PLACE);
        copyDue(40, 40, 39, 39, 1, 1);
        copyDue(40, 40, 40, 40, 0, 0);
        copyDue(40, 40, 40, 40, 1, PLACE);
        copyDue(40, 40, 0, 0, 40, 40);
        for (int beyond : new int[] {41, MOST - 1, MOST}) {
            copyDue(40, 40, beyond, 0, 1, PLACE);
            copyDue(40, 40, 0, beyond, 1, PLACE);
            copyDue(40, 40, 1, 1, beyond, PLACE);
            copyDue(40, 40, beyond, beyond, beyond, PLACE);
        }
    }

    private static void rowIsMissing() {
        FistTrains x = busy();
        x.drop(0);
        due("count(0)", x.count(0), 3);
        due("drop(0)", x.drop(0), NULL);
        due("set(0, 0, 1)", x.set(0, 0, 1), NULL);
        due("hands(0)", x.hands(0), NULL);
        due("copy(0, 0, 0, 0, 0)", x.copy(0, 0, 0, 0, 0), NULL);
        due("the next stays", x.hands(1), 4);
        due("row(0, 2, 5)", x.row(0, 2, 5), 5);
        due("its ITEMS, 0 again", x.hands(0), 5);
    }

    private static void dropAnswers() {
        FistTrains x = new FistTrains();
        for (int n : new int[] {0, 1, 17, 40}) {
            x.row(3, n % 3, n);
            due("drop(3) of " + n, x.drop(3), n);
        }
        for (int row = 0; row < 8; row++) {
            x.row(row, 0, row);
        }
        for (int row = 0; row < 8; row++) {
            due("drop(" + row + ")", x.drop(row), row);
            due("count(0)", x.count(0), 7 - row);
        }
    }

    private static void dropOfNoRow() {
        for (int row : NO_ROWS) {
            refused("drop(" + row + ")", BAD, x -> x.drop(row));
        }
    }

    private static void dropOfMissing() {
        for (int row = 3; row < 7; row++) {
            int missing = row;
            refused("drop(" + row + ")", NULL, x -> x.drop(missing));
        }
    }
}
