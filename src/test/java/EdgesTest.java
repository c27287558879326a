import java.io.IOException;
import java.util.function.Consumer;
import java.util.function.Supplier;
import java.util.regex.Pattern;

/** The sentences of promises 1 to 31, each with a test of its own: both sides of each edge, and what is refused. */
public final class EdgesTest extends Sentences {
    private static final int[] NO_PAIR_WHATS = {-1, 2, LEAST, MOST};

    public static void main(String[] args) throws IOException {
        rows();
        tapes();
        acts();
        manyHands();
        foretellingOfBouts();
        foretellingOfHands();
        fewestAndBegun();
        odds();
        images();
        kinds();
        counts();
        runAll(Pattern.compile("Promise \\d+"));
    }

    // ---- promises 1 to 5

    private static void rows() {
        section("Promise 1");
        sentence("No HALL.", EdgesTest::newObject);
        section("Promise 2");
        sentence("A ROW of a LANE with n ITEMS", EdgesTest::rowOfALane);
        sentence("in place of what is there:", EdgesTest::rowInPlace);
        sentence("what is there: n.", EdgesTest::rowAnswers);
        sentence("BAD: ROW", EdgesTest::rowOfNoRow);
        sentence("LANE, n above 40;", EdgesTest::rowOfNoLane);
        sentence("n above 40;", EdgesTest::rowTooLong);
        sentence("SIZE.", EdgesTest::rowOfFewerThanNone);
        section("Promise 3");
        sentence("ITEM i becomes v", EdgesTest::itemBecomes);
        sentence("its lowest bits, as many as the LANE has (read with their sign):", EdgesTest::lowestBits);
        sentence("what it is then.", EdgesTest::setAnswers);
        sentence("BAD: ROW;", EdgesTest::setOfNoRow);
        sentence("NULL;", EdgesTest::setOfMissing);
        sentence("PLACE.", EdgesTest::setOfNoPlace);
        section("Promise 4");
        sentence("n ITEMS of a from i on come to b from j on", EdgesTest::itemsCome);
        sentence("as they were ahead:", EdgesTest::asTheyWereAhead);
        sentence("as they were ahead: n.", EdgesTest::copyAnswers);
        sentence("BAD: ROWS;", EdgesTest::copyOfNoRows);
        sentence("NULL;", EdgesTest::copyOfMissing);
        sentence("STORE;", EdgesTest::copyOfTwoLanes);
        sentence("PLACE (i, j, n below 0", EdgesTest::copyBelowZero);
        sentence("or beyond an end).", EdgesTest::copyBeyondAnEnd);
        section("Promise 5");
        sentence("A ROW is missing from now on:", EdgesTest::rowIsMissing);
        sentence("how many ITEMS it had.", EdgesTest::dropAnswers);
        sentence("BAD;", EdgesTest::dropOfNoRow);
        sentence("NULL.", EdgesTest::dropOfMissing);
    }

    private static void newObject() {
        FistTrains x = new FistTrains();
        for (int what = 0; what <= 6; what++) {
            due("count(" + what + ")", x.count(what), 0);
        }
        due("kind(0)", x.kind(0), BAD);
        due("player(0, 0)", x.player(0, 0), BAD);
        due("round()", x.round(), STATE);
        due("hands(0)", x.hands(0), STATE);
        due("left(0)", x.left(0), STATE);
        due("longest(0, 0)", x.longest(0, 0), STATE);
        due("image(0)", x.image(0), STATE);
        due("restore(0)", x.restore(0), STATE);
        due("restore(1)", x.restore(1), STATE);
        due("undo()", x.undo(), STATE);
        due("fault()", x.fault(), 0);
        due("status()", x.status(), 0);
        due("trace(0)", x.trace(0), NONE);
    }

    private static void rowOfALane() {
        for (int lane = 0; lane < 3; lane++) {
            for (int n : new int[] {0, 1, 39, 40}) {
                FistTrains x = new FistTrains();
                due("row(5, " + lane + ", " + n + ")", x.row(5, lane, n), n);
                due("count(0)", x.count(0), 1);
                due("set behind its end", x.set(5, n, 1), PLACE);
                due("set of the last", x.set(5, n - 1, 1), n == 0 ? PLACE : 1);
                due("drop(5)", x.drop(5), n);
            }
        }
    }

    private static void rowInPlace() {
        FistTrains x = hallOf("boy1 boy2");
        rowOf(x, 0, 0, 1, 1, 1, 1);
        rowOf(x, 1, 0, 2, 2);
        due("row(0, 2, 2), shorter", x.row(0, 2, 2), 2);
        due("count(0)", x.count(0), 2);
        due("its end", x.set(0, 2, 0), PLACE);
        due("hands(0), 0 anew", x.hands(0), 2);
        due("its lane", x.set(0, 0, MOST), MOST);
        due("row(0, 1, 40), longer", x.row(0, 1, 40), 40);
        due("its lane", x.set(0, 39, 65535), -1);
        due("hands(0), 0 anew", x.hands(0), 0);
        due("row(0, 1, 0), none", x.row(0, 1, 0), 0);
        due("its end", x.set(0, 0, 0), PLACE);
        due("the other one stays", x.hands(1), 2);
        due("hands", hands(x), "22");
    }

    private static void rowAnswers() {
        FistTrains x = new FistTrains();
        for (int n = 0; n <= 40; n++) {
            due("row(7, 1, " + n + ")", x.row(7, 1, n), n);
        }
        for (int row = 0; row < 8; row++) {
            due("row(" + row + ", 0, 3)", x.row(row, 0, 3), 3);
        }
        due("count(0)", x.count(0), 8);
    }

    private static void rowOfNoRow() {
        for (int row : NO_ROWS) {
            refused("row(" + row + ", 0, 1)", BAD, x -> x.row(row, 0, 1));
            refused("row(" + row + ", 0, -1)", BAD, x -> x.row(row, 0, -1));
        }
    }

    private static void rowOfNoLane() {
        for (int lane : new int[] {-1, 3, 4, LEAST, MOST}) {
            refused("row(0, " + lane + ", 1)", BAD, x -> x.row(0, lane, 1));
            refused("row(3, " + lane + ", -1)", BAD, x -> x.row(3, lane, -1));
        }
    }

    private static void rowTooLong() {
        due("row(0, 0, 40)", busy().row(0, 0, 40), 40);
        for (int n : new int[] {41, 42, 320, MOST}) {
            refused("row(0, 0, " + n + ")", BAD, x -> x.row(0, 0, n));
            refused("row(3, 2, " + n + ")", BAD, x -> x.row(3, 2, n));
        }
    }

    private static void rowOfFewerThanNone() {
        due("row(0, 0, 0)", busy().row(0, 0, 0), 0);
        for (int n : new int[] {-1, -40, -41, LEAST}) {
            refused("row(0, 0, " + n + ")", SIZE, x -> x.row(0, 0, n));
            refused("row(7, 2, " + n + ")", SIZE, x -> x.row(7, 2, n));
        }
    }

    private static void itemBecomes() {
        FistTrains x = hallOf("boy0 boy0 boy0");
        x.row(0, 0, 3);
        due("set(0, 0, 1)", x.set(0, 0, 1), 1);
        due("set(0, 2, 2)", x.set(0, 2, 2), 2);
        x.hands(0);
        due("hands", hands(x), "102");
        due("set(0, 2, 0)", x.set(0, 2, 0), 0);
        x.hands(0);
        due("hands", hands(x), "100");
        due("a byte is 1", x.set(0, 1, 257), 1);
        due("a byte is 2", x.set(0, 2, -254), 2);
        x.hands(0);
        due("hands", hands(x), "112");
    }

    private static void lowestBits() {
        FistTrains x = new FistTrains();
        x.row(0, 0, 1);
        x.row(1, 1, 1);
        x.row(2, 2, 1);
        int[] numbers = {0, 1, -1, 127, 128, 129, -128, -129, 255, 256, -255, -256, -257, 32767, 32768, 32769, -32768,
            -32769, 65535, 65536, -65536, -65537, 8388607, 16777216, LEAST, LEAST + 1, MOST, MOST - 1};
        for (int v : numbers) {
            due("byte " + v, x.set(0, 0, v), (int) (byte) v);
            due("short " + v, x.set(1, 0, v), (int) (short) v);
            due("int " + v, x.set(2, 0, v), v);
        }
    }

    private static void setAnswers() {
        FistTrains x = new FistTrains();
        x.row(4, 0, 40);
        due("set(4, 0, 200)", x.set(4, 0, 200), -56);
        due("set(4, 39, -5)", x.set(4, 39, -5), -5);
        due("set(4, 39, 7), not what it was", x.set(4, 39, 7), 7);
    }

    private static void setOfNoRow() {
        for (int row : NO_ROWS) {
            refused("set(" + row + ", 0, 1)", BAD, x -> x.set(row, 0, 1));
            refused("set(" + row + ", -1, 1)", BAD, x -> x.set(row, -1, 1));
        }
    }

    private static void setOfMissing() {
        for (int row = 3; row < 7; row++) {
            int missing = row;
            refused("set(" + row + ", 0, 1)", NULL, x -> x.set(missing, 0, 1));
            refused("set(" + row + ", -1, 1)", NULL, x -> x.set(missing, -1, 1));
        }
        FistTrains x = busy();
        x.drop(0);
        due("set of a dropped one", x.set(0, 0, 1), NULL);
    }

    private static void setOfNoPlace() {
        due("set of the last", busy().set(0, 4, 1), 1);
        for (int i : new int[] {-1, 5, 39, 40, 320, LEAST, MOST}) {
            refused("set(0, " + i + ", 1)", PLACE, x -> x.set(0, i, 1));
            refused("set(2, " + i + ", 1)", PLACE, x -> x.set(2, i, 1));
        }
        refused("set(7, 0, 1)", PLACE, x -> x.set(7, 0, 1));
    }

    private static void itemsCome() {
        for (int lane = 0; lane < 3; lane++) {
            FistTrains x = hallOf("boy0 boy0 boy0 boy0");
            rowOf(x, 0, lane, 1, 2, 0, 1, 2);
            rowOf(x, 1, lane, 0, 0, 0, 0);
            due("copy(0, 1, 1, 0, 2)", x.copy(0, 1, 1, 0, 2), 2);
            x.hands(1);
            due("hands", hands(x), "2000");
            due("copy(0, 3, 1, 2, 2)", x.copy(0, 3, 1, 2, 2), 2);
            x.hands(1);
            due("hands", hands(x), "2012");
            x.hands(0);
            due("what it comes from stays", hands(x), "1201");
        }
        FistTrains ints = hallOf("boy0");
        rowOf(ints, 0, 2, 70001);
        rowOf(ints, 1, 2, 0);
        ints.copy(0, 0, 1, 0, 1);
        due("a whole ITEM comes", ints.hands(1), BAD);
    }

    private static void asTheyWereAhead() {
        FistTrains x = hallOf("boy0 boy0 boy0 boy0");
        rowOf(x, 0, 1, 1, 2, 0, 1);
        x.copy(0, 0, 0, 1, 3);
        x.hands(0);
        due("one on", hands(x), "1120");
        rowOf(x, 0, 1, 1, 2, 0, 1);
        x.copy(0, 1, 0, 0, 3);
        x.hands(0);
        due("one back", hands(x), "2011");
        rowOf(x, 0, 1, 1, 2, 0, 1);
        x.copy(0, 0, 0, 2, 2);
        x.hands(0);
        due("two on", hands(x), "1212");
        x.copy(0, 0, 0, 0, 4);
        x.hands(0);
        due("onto itself", hands(x), "1212");
    }

    private static void copyAnswers() {
        FistTrains x = new FistTrains();
        x.row(0, 0, 40);
        x.row(1, 0, 40);
        for (int n = 0; n <= 40; n++) {
            due("copy(0, 0, 1, 0, " + n + ")", x.copy(0, 0, 1, 0, n), n);
        }
    }

    private static void copyOfNoRows() {
        for (int row : NO_ROWS) {
            refused("copy(" + row + ", 0, 0, 0, 1)", BAD, x -> x.copy(row, 0, 0, 0, 1));
            refused("copy(0, 0, " + row + ", 0, 1)", BAD, x -> x.copy(0, 0, row, 0, 1));
            refused("copy(" + row + ", 0, 3, 0, 1)", BAD, x -> x.copy(row, 0, 3, 0, 1));
            refused("copy(3, 0, " + row + ", 0, -1)", BAD, x -> x.copy(3, 0, row, 0, -1));
        }
    }

    private static void copyOfMissing() {
        refused("copy(3, 0, 0, 0, 1)", NULL, x -> x.copy(3, 0, 0, 0, 1));
        refused("copy(0, 0, 3, 0, 1)", NULL, x -> x.copy(0, 0, 3, 0, 1));
        refused("copy(3, 0, 4, 0, 0)", NULL, x -> x.copy(3, 0, 4, 0, 0));
        refused("copy(3, 0, 3, 0, 0)", NULL, x -> x.copy(3, 0, 3, 0, 0));
        refused("copy(3, -1, 0, 0, 1)", NULL, x -> x.copy(3, -1, 0, 0, 1));
        refused("copy(0, -1, 3, 0, 1)", NULL, x -> x.copy(0, -1, 3, 0, 1));
    }

    private static void copyOfTwoLanes() {
        refused("copy(0, 0, 1, 0, 1)", STORE, x -> x.copy(0, 0, 1, 0, 1));
        refused("copy(1, 0, 0, 0, 1)", STORE, x -> x.copy(1, 0, 0, 0, 1));
        refused("copy(1, 0, 2, 0, 1)", STORE, x -> x.copy(1, 0, 2, 0, 1));
        refused("copy(0, 0, 2, 0, 0)", STORE, x -> x.copy(0, 0, 2, 0, 0));
        refused("copy(0, -1, 2, 0, 1)", STORE, x -> x.copy(0, -1, 2, 0, 1));
        refused("copy(0, 0, 2, 0, 41)", STORE, x -> x.copy(0, 0, 2, 0, 41));
    }

    private static FistTrains withRowsOf(int a, int b) {
        FistTrains x = hallOf("boy0 boy0");
        x.row(0, 0, a);
        x.row(1, 0, b);
        x.drop(5);
        return x;
    }

    private static void copyDue(int a, int b, int i, int j, int n, int want) {
        String call = "copy(0, " + i + ", 1, " + j + ", " + n + ") of " + a + " and " + b;
        if (want == PLACE) {
            refused(() -> withRowsOf(a, b), call, PLACE, x -> x.copy(0, i, 1, j, n));
        } else {
            due(call, withRowsOf(a, b).copy(0, i, 1, j, n), want);
        }
    }

    private static void copyBelowZero() {
        copyDue(4, 6, 0, 0, 0, 0);
        for (int below : new int[] {-1, -2, -40, LEAST}) {
            copyDue(4, 6, below, 0, 1, PLACE);
            copyDue(4, 6, 0, below, 1, PLACE);
            copyDue(4, 6, 0, 0, below, PLACE);
            copyDue(4, 6, below, 0, 0, PLACE);
            copyDue(4, 6, 0, below, 0, PLACE);
            copyDue(4, 6, 4, 6, below, PLACE);
        }
    }

    private static void copyBeyondAnEnd() {
        copyDue(4, 6, 0, 0, 4, 4);
        copyDue(4, 6, 0, 0, 5, PLACE);
        copyDue(4, 6, 0, 2, 4, 4);
        copyDue(4, 6, 0, 3, 4, PLACE);
        copyDue(4, 6, 1, 0, 4, PLACE);
        copyDue(6, 4, 0, 0, 5, PLACE);
        copyDue(6, 4, 2, 0, 4, 4);
        copyDue(6, 4, 3, 0, 4, PLACE);
        copyDue(4, 6, 4, 6, 0, 0);
        copyDue(4, 6, 5, 6, 0, PLACE);
        copyDue(4, 6, 4, 7, 0, PLACE);
        copyDue(0, 0, 0, 0, 0, 0);
        copyDue(0, 0, 0, 0, 1, PLACE);
        copyDue(40, 40, 39, 39, 1, 1);
        copyDue(40, 40, 40, 40, 0, 0);
        copyDue(40, 40, 40, 40, 1, PLACE);
        copyDue(40, 40, 0, 0, 40, 40);
        for (int beyond : new int[] {41, MOST - 1, MOST}) {
            copyDue(40, 40, beyond, 0, 1, PLACE);
            copyDue(40, 40, 0, beyond, 1, PLACE);
            copyDue(40, 40, 1, 1, beyond, PLACE);
            copyDue(40, 40, beyond, beyond, beyond, PLACE);
        }
    }

    private static void rowIsMissing() {
        FistTrains x = busy();
        x.drop(0);
        due("count(0)", x.count(0), 3);
        due("drop(0)", x.drop(0), NULL);
        due("set(0, 0, 1)", x.set(0, 0, 1), NULL);
        due("hands(0)", x.hands(0), NULL);
        due("copy(0, 0, 0, 0, 0)", x.copy(0, 0, 0, 0, 0), NULL);
        due("the next stays", x.hands(1), 4);
        due("row(0, 2, 5)", x.row(0, 2, 5), 5);
        due("its ITEMS, 0 again", x.hands(0), 5);
    }

    private static void dropAnswers() {
        FistTrains x = new FistTrains();
        for (int n : new int[] {0, 1, 17, 40}) {
            x.row(3, n % 3, n);
            due("drop(3) of " + n, x.drop(3), n);
        }
        for (int row = 0; row < 8; row++) {
            x.row(row, 0, row);
        }
        for (int row = 0; row < 8; row++) {
            due("drop(" + row + ")", x.drop(row), row);
            due("count(0)", x.count(0), 7 - row);
        }
    }

    private static void dropOfNoRow() {
        for (int row : NO_ROWS) {
            refused("drop(" + row + ")", BAD, x -> x.drop(row));
        }
    }

    private static void dropOfMissing() {
        for (int row = 3; row < 7; row++) {
            int missing = row;
            refused("drop(" + row + ")", NULL, x -> x.drop(missing));
        }
    }

    // ---- promises 6 to 8

    private static void tapes() {
        section("Promise 6");
        sentence("The lowest n bytes of w (1 to 8)", EdgesTest::lowestBytes);
        sentence("the highest of them first, come behind the tape:", EdgesTest::highestFirst);
        sentence("how many it has.", EdgesTest::feedAnswers);
        sentence("BAD: n;", EdgesTest::feedOfNoNumber);
        sentence("FULL: none comes.", EdgesTest::feedOfAFullTape);
        section("Promise 7");
        sentence("The tape, empty then, is read:", EdgesTest::tapeIsEmptyThen);
        sentence("how many PLAYERS there are.", EdgesTest::hallAnswers);
        sentence("-1000100 less the place of a FAULT:", EdgesTest::placeOfAFault);
        sentence("all but the tape, and what fault() tells, stays.", EdgesTest::faultLeavesAll);
        section("Promise 8");
        sentence("The number of the latest FAULT;", EdgesTest::latestFault);
        sentence("0 before one.", EdgesTest::noFaultYet);
    }

    private static long word(String text) {
        long word = 0;
        for (int i = 0; i < text.length(); i++) {
            word = word << 8 | text.charAt(i);
        }
        return word;
    }

    private static void lowestBytes() {
        String text = "player boy 2;";
        for (int n = 1; n <= 8; n++) {
            FistTrains x = new FistTrains();
            long above = n == 8 ? 0 : -1L << (8 * n);
            for (int at = 0; at < text.length(); at += n) {
                String part = text.substring(at, Math.min(at + n, text.length()));
                long word = word(part + " ".repeat(n - part.length()));
                due("feed of " + n, x.feed(above | word, n), at + n);
            }
            due("hall, fed by " + n, x.hall(), 1);
            due("hand, fed by " + n, x.player(0, 0), 2);
        }
        FistTrains x = new FistTrains();
        x.feed(-1L, 8);
        due("a byte of 255 is no blank", x.hall(), FAULTY);
    }

    private static void highestFirst() {
        FistTrains x = new FistTrains();
        due("feed of 'player b'", x.feed(0x706c617965722062L, 8), 8);
        due("feed of 'oy 1;'", x.feed(0x6f7920313bL, 5), 13);
        due("hall", x.hall(), 1);
        due("kind(0)", x.kind(0), 1);
        due("hand", x.player(0, 0), 1);
    }

    private static void feedAnswers() {
        FistTrains x = new FistTrains();
        int bytes = 0;
        for (int n = 1; n <= 8; n++) {
            bytes += n;
            due("feed(0, " + n + ")", x.feed(0, n), bytes);
            due("count(6)", x.count(6), bytes);
        }
        x.hall();
        due("feed(0, 3), behind hall()", x.feed(0, 3), 3);
    }

    private static void feedOfNoNumber() {
        due("feed(32, 1)", busy().feed(32, 1), 27);
        due("feed(32, 8)", busy().feed(32, 8), 34);
        for (int n : new int[] {0, 9, -1, 10, 200, 201, LEAST, MOST}) {
            refused("feed(0, " + n + ")", BAD, x -> x.feed(0, n));
        }
    }

    private static FistTrains withTape(int bytes) {
        FistTrains x = hallOf("boy1");
        feed(x, "player spy 0;" + " ".repeat(bytes - 13));
        return x;
    }

    private static void feedOfAFullTape() {
        for (int n = 1; n <= 8; n++) {
            int more = n;
            due("feed(32, " + n + ") of " + (200 - n), withTape(200 - n).feed(32, n), 200);
            refused(() -> withTape(201 - more), "feed(0, " + n + ") of " + (201 - n), FULL, x -> x.feed(0, more));
            refused(() -> withTape(200), "feed(0, " + n + ") of 200", FULL, x -> x.feed(0, more));
        }
        FistTrains x = withTape(199);
        due("feed(.., 2) of 199", x.feed(0, 2), FULL);
        due("feed(32, 1) of 199", x.feed(32, 1), 200);
        due("hall, of what came", x.hall(), 1);
        due("kind(0)", x.kind(0), 5);
        due("feed behind hall()", x.feed(0, 8), 8);
    }

    private static void tapeIsEmptyThen() {
        FistTrains x = hallOf("boy0 boy1");
        due("count(6)", x.count(6), 0);
        due("hall() of an empty tape", x.hall(), FAULTY);
        due("count(1)", x.count(1), 2);
        read(x, "player boy 3;player");
        due("count(6) behind a FAULT", x.count(6), 0);
        due("hall() of what comes then", read(x, "player spy 0;"), 1);
        due("hall() of a shorter text", read(x, "player"), FAULTY - 6);
    }

    private static void hallAnswers() {
        for (int players = 1; players <= 8; players++) {
            FistTrains x = new FistTrains();
            due("hall of " + players, read(x, "player mirror 1;".repeat(players)), players);
            due("count(1)", x.count(1), players);
        }
    }

    private static void placeOfAFault() {
        String[] texts = {"", "x", " x", "player x", "player boy x", "player boy 0x", "player boy 0;x"};
        int[] places = {0, 0, 1, 7, 11, 12, 13};
        for (int i = 0; i < texts.length; i++) {
            due("hall of '" + texts[i] + "'", read(new FistTrains(), texts[i]), -1000100 - places[i]);
        }
        due("hall of 200 bytes", read(new FistTrains(), " ".repeat(200)), -1000300);
        due("hall of 200 bytes", read(new FistTrains(), " ".repeat(199) + "x"), -1000299);
    }

    private static void faultLeavesAll() {
        String[] faulty = {"", "player", "player spy 3;", "player spy 1;player spy 1;player", "player boy 1;".repeat(9)};
        for (String text : faulty) {
            FistTrains x = withEmptyTape();
            due("hall of '" + text + "'", read(x, text) <= FAULTY, true);
            due("status()", x.status(), 2);
            FistTrains y = withEmptyTape();
            String fault = " fault ";
            due("all behind '" + text + "'", allOf(x).replaceAll(fault + "\\d", ""),
                allOf(y).replaceAll(fault + "\\d", ""));
            FistTrains z = withEmptyTape();
            read(z, text);
            due("what is foretold behind '" + text + "'", foretells(z), foretells(withEmptyTape()));
            FistTrains none = new FistTrains();
            read(none, text);
            due("left(0), no HALL behind '" + text + "'", none.left(0), STATE);
            due("longest(0, 0), no HALL behind '" + text + "'", none.longest(0, 0), STATE);
            due("hands(0), no HALL behind '" + text + "'", none.hands(0), STATE);
            due("image(0), no HALL behind '" + text + "'", none.image(0), STATE);
            due("round(), no HALL behind '" + text + "'", none.round(), STATE);
            due("kind(0), no HALL behind '" + text + "'", none.kind(0), BAD);
        }
    }

    private static void latestFault() {
        FistTrains x = new FistTrains();
        read(x, "player boy 3;");
        due("fault()", x.fault(), 2);
        read(x, "player boy 0;".repeat(9));
        due("fault()", x.fault(), 3);
        read(x, "player");
        due("fault()", x.fault(), 1);
        read(x, "player boy 7;");
        due("fault()", x.fault(), 2);
        read(x, "player boy 2;");
        due("fault(), none since", x.fault(), 2);
        due("fault(), asked again", x.fault(), 2);
    }

    private static void noFaultYet() {
        FistTrains x = new FistTrains();
        due("fault()", x.fault(), 0);
        read(x, "player boy 0;");
        x.feed(0, 9);
        x.set(0, 0, 0);
        x.bout(0, 0);
        due("fault()", x.fault(), 0);
    }

    // ---- promises 9 to 14

    private static void acts() {
        section("Promise 9");
        sentence("A BOUT: who has won.", EdgesTest::boutAnswers);
        sentence("BAD: alike, too;", EdgesTest::boutOfNoPair);
        sentence("STATE: one does not LEAD.", EdgesTest::boutOfNoLeader);
        section("Promise 10");
        sentence("A ROUND: how many LEAD behind it.", EdgesTest::roundAnswers);
        sentence("STATE: no HALL", EdgesTest::roundOfNoHall);
        sentence("or one LEADS alone.", EdgesTest::roundOfOne);
        section("Promise 11");
        sentence("A PLAYER has a HAND:", EdgesTest::playerHasHand);
        sentence("which he had.", EdgesTest::handAnswers);
        sentence("BAD.", EdgesTest::handOfNoPlayer);
        sentence("HAND: which he had. BAD.", EdgesTest::handOfNoHand);
        section("Promise 13");
        sentence("The latest ACT is undone:", EdgesTest::latestActIsUndone);
        sentence("how many can be undone yet.", EdgesTest::undoAnswers);
        sentence("STATE: none.", EdgesTest::undoOfNone);
        section("Promise 14");
        sentence("Of a PLAYER: 0 HAND", EdgesTest::handOfAPlayer);
        sentence("1 who LEADS the TRAIN in which he is", EdgesTest::leaderOfAPlayer);
        sentence("2 how many are in that.", EdgesTest::trainOfAPlayer);
        sentence("BAD.", EdgesTest::noPlayer);
        sentence("in that. BAD.", EdgesTest::playerOfNoWhat);
    }

    private static void boutAnswers() {
        FistTrains x = hallOf("steady0 steady1 steady1 boy2 boy2 steady0 spy0 steady2");
        due("bout(0, 1), the second by a throw", x.bout(0, 1), 1);
        due("bout(3, 2), the first by a throw", x.bout(3, 2), 3);
        due("bout(4, 3), by trains", x.bout(4, 3), 3);
        due("bout(7, 6), a spy", x.bout(7, 6), 6);
        due("bout(6, 5), a spy", x.bout(6, 5), 6);
        due("count(4)", x.count(4), 1 + 1 + 9 + 1 + 1);
        due("count(5)", x.count(5), 5);
        due("count(3)", x.count(3), 0);
        due("leaders", leaders(x), "11333666");
        due("bout(1, 0), of one train", x.bout(1, 0), STATE);
    }

    private static void boutOfNoPair() {
        for (int p = 0; p < 5; p++) {
            int alike = p;
            refused("bout(" + p + ", " + p + ")", BAD, x -> x.bout(alike, alike));
        }
        for (int p : NO_PLAYERS) {
            refused("bout(" + p + ", 0)", BAD, x -> x.bout(p, 0));
            refused("bout(0, " + p + ")", BAD, x -> x.bout(0, p));
            refused("bout(1, " + p + ")", BAD, x -> x.bout(1, p));
            refused("bout(" + p + ", " + p + ")", BAD, x -> x.bout(p, p));
        }
        refused(EdgesTest::withoutHall, "bout(0, 1)", BAD, x -> x.bout(0, 1));
    }

    private static void boutOfNoLeader() {
        due("bout(0, 3)", busy().bout(0, 3), 3);
        for (int p : new int[] {1, 2, 4}) {
            refused("bout(" + p + ", 0)", STATE, x -> x.bout(p, 0));
            refused("bout(3, " + p + ")", STATE, x -> x.bout(3, p));
        }
        refused("bout(1, 4)", STATE, x -> x.bout(1, 4));
    }

    private static void roundAnswers() {
        int[] behind = {1, 2, 2, 3, 3, 4, 4};
        for (int players = 2; players <= 8; players++) {
            FistTrains x = new FistTrains();
            read(x, "player boy 1;".repeat(players));
            due("round() of " + players, x.round(), behind[players - 2]);
            due("count(2)", x.count(2), behind[players - 2]);
            due("count(3)", x.count(3), 1);
            due("count(5)", x.count(5), 1);
        }
    }

    private static void roundOfNoHall() {
        refused(FistTrains::new, "round()", STATE, FistTrains::round);
        refused(EdgesTest::withoutHall, "round()", STATE, FistTrains::round);
    }

    private static FistTrains withOneLeader() {
        FistTrains x = busy();
        x.round();
        return x;
    }

    private static void roundOfOne() {
        due("round() of two", busy().round(), 1);
        refused(EdgesTest::withOneLeader, "round()", STATE, FistTrains::round);
        refused(() -> hallOf("boy1"), "round() of one alone", STATE, FistTrains::round);
    }

    private static void playerHasHand() {
        FistTrains x = hallOf("boy0 steady1 spy2");
        for (int hand = 0; hand < 3; hand++) {
            for (int p = 0; p < 3; p++) {
                x.hand(p, hand);
                due("hand of " + p, x.player(p, 0), hand);
            }
        }
        x.hand(1, 0);
        due("hands", hands(x), "202");
        x.bout(0, 1);
        x.hand(0, 1);
        due("hand of one who does not lead", hands(x), "102");
        due("leaders", leaders(x), "112");
    }

    private static void handAnswers() {
        FistTrains x = hallOf("boy0 boy2");
        due("hand(0, 1)", x.hand(0, 1), 0);
        due("hand(0, 2)", x.hand(0, 2), 1);
        due("hand(0, 2)", x.hand(0, 2), 2);
        due("hand(1, 0)", x.hand(1, 0), 2);
        due("count(5)", x.count(5), 4);
    }

    private static void handOfNoPlayer() {
        for (int p : NO_PLAYERS) {
            refused("hand(" + p + ", 0)", BAD, x -> x.hand(p, 0));
        }
        refused(EdgesTest::withoutHall, "hand(0, 0)", BAD, x -> x.hand(0, 0));
    }

    private static void handOfNoHand() {
        for (int hand : NO_HANDS) {
            refused("hand(0, " + hand + ")", BAD, x -> x.hand(0, hand));
            refused("hand(4, " + hand + ")", BAD, x -> x.hand(4, hand));
        }
    }

    private static void latestActIsUndone() {
        FistTrains x = busy();
        String before = seen(x);
        x.hand(0, 1);
        x.undo();
        due("seen behind a hand, undone", seen(x), before);
        x.bout(0, 3);
        x.undo();
        due("seen behind a bout, undone", seen(x), before);
        x.round();
        x.undo();
        due("seen behind a round, undone", seen(x), before);
        x.hands(1);
        x.undo();
        due("seen behind hands, undone", seen(x), before);
        due("status stays", x.status(), 0);
        x.row(5, 0, 1);
        x.hand(0, 2);
        x.drop(5);
        x.image(1);
        x.undo();
        due("a ROW stays missing", x.drop(5), NULL);
        due("an IMAGE stays", x.restore(1), 1);
        due("hand of the IMAGE", x.player(0, 0), 2);
    }

    private static void undoAnswers() {
        FistTrains x = hallOf("boy0 boy1");
        for (int i = 0; i < 25; i++) {
            x.hand(0, i % 3);
        }
        for (int yet = 23; yet >= 0; yet--) {
            due("undo()", x.undo(), yet);
            due("count(5)", x.count(5), yet);
        }
        x.hand(0, 1);
        x.hand(0, 2);
        due("undo() of two", x.undo(), 1);
    }

    private static FistTrains allUndone() {
        FistTrains x = busy();
        x.undo();
        x.undo();
        x.undo();
        return x;
    }

    private static void undoOfNone() {
        refused(FistTrains::new, "undo()", STATE, FistTrains::undo);
        refused(EdgesTest::withoutHall, "undo()", STATE, FistTrains::undo);
        refused(EdgesTest::allUndone, "undo()", STATE, FistTrains::undo);
        refused(() -> hallOf("boy1"), "undo()", STATE, FistTrains::undo);
        FistTrains x = withOneLeader();
        x.round();
        due("count(5), no more by a refused round", x.count(5), 4);
    }

    private static void handOfAPlayer() {
        FistTrains x = hallOf("boy2 steady1 teacher0 mirror2 spy1 boy0 boy1 boy2");
        int[] dues = {2, 1, 0, 2, 1, 0, 1, 2};
        for (int p = 0; p < 8; p++) {
            due("player(" + p + ", 0)", x.player(p, 0), dues[p]);
        }
        x.bout(2, 5);
        due("player(2, 0) behind a bout", x.player(2, 0), 0);
        due("player(5, 0) behind a bout", x.player(5, 0), 2);
    }

    private static void leaderOfAPlayer() {
        FistTrains x = busy();
        int[] dues = {0, 0, 0, 3, 3};
        for (int p = 0; p < 5; p++) {
            due("player(" + p + ", 1)", x.player(p, 1), dues[p]);
        }
    }

    private static void trainOfAPlayer() {
        FistTrains x = busy();
        int[] dues = {3, 3, 3, 2, 2};
        for (int p = 0; p < 5; p++) {
            due("player(" + p + ", 2)", x.player(p, 2), dues[p]);
        }
        x.round();
        due("player(1, 2), of all", x.player(1, 2), 5);
        due("player(0, 2), of one", hallOf("boy1").player(0, 2), 1);
    }

    private static void noPlayer() {
        for (int p : NO_PLAYERS) {
            for (int what = 0; what < 3; what++) {
                int told = what;
                refused("player(" + p + ", " + what + ")", BAD, x -> x.player(p, told));
            }
        }
        refused(EdgesTest::withoutHall, "player(0, 0)", BAD, x -> x.player(0, 0));
        due("player(7, 2) of eight", hallOf("boy0 boy0 boy0 boy0 boy0 boy0 boy0 boy0").player(7, 2), 1);
    }

    private static void playerOfNoWhat() {
        for (int what : new int[] {-1, 3, 4, LEAST, MOST}) {
            refused("player(0, " + what + ")", BAD, x -> x.player(0, what));
        }
    }

    // ---- promise 12

    private static void manyHands() {
        section("Promise 12");
        sentence("PLAYERS 0 on have as HANDS the first ITEMS of a ROW", EdgesTest::playersHaveHands);
        sentence("(one ACT):", EdgesTest::handsAreOneAct);
        sentence("how many had another one.", EdgesTest::handsAnswer);
        sentence("BAD: ROW;", EdgesTest::handsOfNoRow);
        sentence("STATE: no HALL", EdgesTest::handsOfNoHall);
        sentence("(ahead of BAD);", EdgesTest::handsOfNoHallAheadOfBad);
        sentence("NULL;", EdgesTest::handsOfMissing);
        sentence("PLACE;", EdgesTest::handsOfTooFew);
        sentence("then BAD: an ITEM that is no HAND.", EdgesTest::handsOfNoHand);
        sentence("PLACE; then BAD:", EdgesTest::placeAheadOfNoHand);
    }

    private static void playersHaveHands() {
        for (int lane = 0; lane < 3; lane++) {
            FistTrains x = hallOf("boy0 steady0 spy0");
            rowOf(x, 0, lane, 2, 1, 0);
            x.hands(0);
            due("hands", hands(x), "210");
            rowOf(x, 1, lane, 0, 2, 1, 99, -1);
            x.hands(1);
            due("hands, the first of more ITEMS", hands(x), "021");
        }
        FistTrains x = hallOf("boy0 boy0 boy0 boy0 boy0 boy0 boy0 boy0");
        rowOf(x, 7, 0, 0, 1, 2, 0, 1, 2, 0, 1);
        x.hands(7);
        due("hands of eight", hands(x), "01201201");
        FistTrains y = busy();
        y.hands(1);
        due("also of those who do not lead", hands(y), "21212");
        due("leaders", leaders(y), "00033");
    }

    private static void handsAreOneAct() {
        FistTrains x = busy();
        String before = hands(x);
        x.hands(1);
        due("count(5)", x.count(5), 4);
        due("count(4)", x.count(4), 2);
        due("count(3)", x.count(3), 1);
        due("undo()", x.undo(), 3);
        due("hands", hands(x), before);
    }

    private static void handsAnswer() {
        FistTrains x = hallOf("boy0 boy1 boy2 boy0");
        rowOf(x, 0, 0, 0, 1, 2, 0);
        due("hands(0), none", x.hands(0), 0);
        rowOf(x, 0, 0, 0, 1, 2, 1, 2, 2);
        due("hands(0), the last", x.hands(0), 1);
        rowOf(x, 0, 0, 1, 1, 0, 1);
        due("hands(0), two", x.hands(0), 2);
        rowOf(x, 0, 0, 2, 2, 2, 2);
        due("hands(0), all", x.hands(0), 4);
        x.bout(0, 1);
        rowOf(x, 0, 0, 2, 0, 2, 2);
        x.hands(0);
        rowOf(x, 0, 0, 1, 1, 1, 1);
        due("hands(0), also of those who do not lead", x.hands(0), 4);
    }

    private static void handsOfNoRow() {
        for (int row : NO_ROWS) {
            refused("hands(" + row + ")", BAD, x -> x.hands(row));
        }
    }

    private static void handsOfNoHall() {
        refused(EdgesTest::withoutHall, "hands(0)", STATE, x -> x.hands(0));
        refused(EdgesTest::withoutHall, "hands(3), missing", STATE, x -> x.hands(3));
        refused(FistTrains::new, "hands(0)", STATE, x -> x.hands(0));
    }

    private static void handsOfNoHallAheadOfBad() {
        for (int row : NO_ROWS) {
            refused(EdgesTest::withoutHall, "hands(" + row + ")", STATE, x -> x.hands(row));
        }
        FistTrains x = new FistTrains();
        rowOf(x, 0, 0, 9, 9, 9, 9, 9, 9, 9, 9);
        due("hands(0), no HANDS", x.hands(0), STATE);
    }

    private static void handsOfMissing() {
        for (int row = 3; row < 7; row++) {
            int missing = row;
            refused("hands(" + row + ")", NULL, x -> x.hands(missing));
        }
    }

    private static FistTrains withRowOf(int items) {
        FistTrains x = hallOf("boy1 boy1 boy1");
        x.row(2, 1, items);
        return x;
    }

    private static void handsOfTooFew() {
        refused(() -> withRowOf(0), "hands(2) of 0", PLACE, x -> x.hands(2));
        refused(() -> withRowOf(1), "hands(2) of 1", PLACE, x -> x.hands(2));
        refused(() -> withRowOf(2), "hands(2) of 2", PLACE, x -> x.hands(2));
        due("hands(2) of 3", withRowOf(3).hands(2), 3);
        due("hands(2) of 4", withRowOf(4).hands(2), 3);
        due("hands(2) of 40", withRowOf(40).hands(2), 3);
        FistTrains behind = withRowOf(2);
        behind.bout(0, 1);
        due("hands(2) of 2, of those who do not lead, too", behind.hands(2), PLACE);
    }

    private static FistTrains withItem(int i, int item) {
        FistTrains x = hallOf("boy1 boy1 boy1");
        rowOf(x, 2, 2, 2, 2, 2, 2);
        x.set(2, i, item);
        x.drop(6);
        return x;
    }

    private static void handsOfNoHand() {
        for (int item : NO_HANDS) {
            for (int i = 0; i < 3; i++) {
                int at = i;
                refused(() -> withItem(at, item), "hands(2), ITEM " + i + " is " + item, BAD, x -> x.hands(2));
            }
            due("hands(2), an ITEM behind them is " + item, withItem(3, item).hands(2), 3);
        }
        due("hands(2), ITEM 2 is 0", withItem(2, 0).hands(2), 3);
        FistTrains wrapped = hallOf("boy1");
        wrapped.row(0, 0, 1);
        wrapped.set(0, 0, 258);
        due("hands(0), a byte of 258 is 2", wrapped.hands(0), 1);
        wrapped.set(0, 0, 255);
        due("hands(0), a byte of 255 is -1", wrapped.hands(0), BAD);
    }

    private static void placeAheadOfNoHand() {
        FistTrains x = hallOf("boy1 boy1 boy1");
        rowOf(x, 0, 0, 3, -1);
        due("hands(0)", x.hands(0), PLACE);
        due("status()", x.status(), 2);
        rowOf(x, 0, 0, 3, -1, 0);
        due("hands(0)", x.hands(0), BAD);
    }

    // ---- promises 15 to 17

    private static void foretellingOfBouts() {
        section("Promise 15");
        sentence("Of a BOUT: who wins (what = 0)", EdgesTest::whoWins);
        sentence("THROWS (1).", EdgesTest::throwsOfABout);
        sentence("BAD: alike, too;", EdgesTest::beatsOfNoPair);
        sentence("(1). BAD:", EdgesTest::beatsOfNoWhat);
        sentence("STATE: one does not LEAD.", EdgesTest::beatsOfNoLeader);
        section("Promise 16");
        sentence("LEFT: who (what = 0)", EdgesTest::whoIsLeft);
        sentence("ROUNDS (1)", EdgesTest::roundsTillLeft);
        sentence("TIME (2).", EdgesTest::timeTillLeft);
        sentence("BAD;", EdgesTest::leftOfNoWhat);
        sentence("STATE: no HALL", EdgesTest::leftOfNoHall);
        sentence("(ahead of BAD).", EdgesTest::leftOfNoHallAheadOfBad);
        section("Promise 17");
        sentence("LONGEST: how many (what = 0)", EdgesTest::longestTrain);
        sentence("who (1).", EdgesTest::whoLeadsTheLongest);
        sentence("BAD;", EdgesTest::longestOfNoRounds);
        sentence("who (1). BAD;", EdgesTest::longestOfNoWhat);
        sentence("STATE: no HALL", EdgesTest::longestOfNoHall);
        sentence("(ahead of BAD).", EdgesTest::longestOfNoHallAheadOfBad);
    }

    private static void whoWins() {
        FistTrains x = hallOf("steady0 steady1 boy1 spy0 teacher2 boy2");
        due("beats(0, 1, 0)", x.beats(0, 1, 0), 1);
        due("beats(1, 0, 0)", x.beats(1, 0, 0), 1);
        due("beats(2, 1, 0)", x.beats(2, 1, 0), 2);
        due("beats(2, 3, 0)", x.beats(2, 3, 0), 3);
        due("beats(5, 4, 0)", x.beats(5, 4, 0), 4);
        due("leaders", leaders(x), "012345");
        due("hands", hands(x), "011022");
        for (int a = 0; a < 6; a++) {
            for (int b = 0; b < 6; b++) {
                if (a != b) {
                    int wins = x.beats(a, b, 0);
                    due("bout(" + a + ", " + b + ")", x.bout(a, b), wins);
                    x.undo();
                }
            }
        }
    }

    private static void throwsOfABout() {
        FistTrains x = hallOf("steady0 steady1 boy1 spy0 teacher2 boy2 steady0 boy0");
        due("beats(0, 1, 1)", x.beats(0, 1, 1), 1);
        due("beats(2, 1, 1)", x.beats(2, 1, 1), 2);
        due("beats(4, 5, 1)", x.beats(4, 5, 1), 4);
        due("beats(0, 6, 1)", x.beats(0, 6, 1), 9);
        due("count(4)", x.count(4), 0);
        x.hand(4, 0);
        due("beats(4, 7, 1)", x.beats(4, 7, 1), 3);
    }

    private static void beatsOfNoPair() {
        for (int what = 0; what < 2; what++) {
            int told = what;
            refused("beats(0, 0, " + what + ")", BAD, x -> x.beats(0, 0, told));
            refused("beats(1, 1, " + what + ")", BAD, x -> x.beats(1, 1, told));
            for (int p : NO_PLAYERS) {
                refused("beats(" + p + ", 0, " + what + ")", BAD, x -> x.beats(p, 0, told));
                refused("beats(0, " + p + ", " + what + ")", BAD, x -> x.beats(0, p, told));
                refused("beats(1, " + p + ", " + what + ")", BAD, x -> x.beats(1, p, told));
                refused("beats(" + p + ", " + p + ", " + what + ")", BAD, x -> x.beats(p, p, told));
            }
        }
        refused(EdgesTest::withoutHall, "beats(0, 1, 0)", BAD, x -> x.beats(0, 1, 0));
    }

    private static void beatsOfNoWhat() {
        for (int what : NO_PAIR_WHATS) {
            refused("beats(0, 3, " + what + ")", BAD, x -> x.beats(0, 3, what));
            refused("beats(0, 1, " + what + "), 1 does not lead", BAD, x -> x.beats(0, 1, what));
        }
    }

    private static void beatsOfNoLeader() {
        for (int p : new int[] {1, 2, 4}) {
            for (int what = 0; what < 2; what++) {
                int told = what;
                refused("beats(" + p + ", 0, " + what + ")", STATE, x -> x.beats(p, 0, told));
                refused("beats(3, " + p + ", " + what + ")", STATE, x -> x.beats(3, p, told));
            }
        }
        refused("beats(1, 4, 0)", STATE, x -> x.beats(1, 4, 0));
    }

    private static final String EIGHT = "steady0 steady1 boy0 boy0 steady2 teacher2 mirror1 steady1";

    /** Played to its end: who leads, behind how many rounds more, and how much time more. */
    private static int[] played(FistTrains x) {
        int round = x.count(3);
        int time = x.count(4);
        for (int i = 0; i < 9 && x.count(2) > 1; i++) {
            x.round();
        }
        return new int[] {x.player(0, 1), x.count(3) - round, x.count(4) - time};
    }

    private static void leftAsPlayed(int what) {
        for (String players : new String[] {"boy1", "steady0 steady0", "boy0 spy1 mirror0", EIGHT}) {
            FistTrains x = hallOf(players);
            for (int rounds = 0; rounds < 4; rounds++) {
                FistTrains y = hallOf(players);
                for (int i = 0; i < rounds; i++) {
                    y.round();
                }
                due("left(" + what + ") behind " + rounds + " of " + players, x.left(what), played(y)[what]);
                x.round();
            }
        }
    }

    private static void whoIsLeft() {
        leftAsPlayed(0);
        due("left(0), alone", hallOf("boy1").left(0), 0);
        due("left(0)", withOneLeader().left(0), 3);
        due("left(0)", hallOf("steady0 steady1 steady2 steady0 steady1 steady2 steady0 steady1").left(0), 5);
    }

    private static void roundsTillLeft() {
        leftAsPlayed(1);
        int[] rounds = {0, 1, 2, 2, 3, 3, 3, 3};
        for (int players = 1; players <= 8; players++) {
            FistTrains x = new FistTrains();
            read(x, "player boy 1;".repeat(players));
            due("left(1) of " + players, x.left(1), rounds[players - 1]);
        }
    }

    private static void timeTillLeft() {
        leftAsPlayed(2);
        due("left(2), alone", hallOf("boy1").left(2), 0);
        due("left(2), three times nine", hallOf("spy0 spy0 spy0 spy0 spy0 spy0 spy0 spy0").left(2), 27);
    }

    private static void leftOfNoWhat() {
        for (int what : new int[] {-1, 3, 4, LEAST, MOST}) {
            refused("left(" + what + ")", BAD, x -> x.left(what));
        }
    }

    private static void leftOfNoHall() {
        for (int what = 0; what < 3; what++) {
            int told = what;
            refused(EdgesTest::withoutHall, "left(" + what + ")", STATE, x -> x.left(told));
        }
    }

    private static void leftOfNoHallAheadOfBad() {
        for (int what : new int[] {-1, 3, LEAST, MOST}) {
            refused(EdgesTest::withoutHall, "left(" + what + ")", STATE, x -> x.left(what));
        }
    }

    private static void longestTrain() {
        FistTrains x = hallOf(EIGHT);
        FistTrains y = hallOf(EIGHT);
        int[] sizes = {1, 2, 4, 8};
        for (int n = 0; n <= 9; n++) {
            due("longest(" + n + ", 0)", x.longest(n, 0), sizes[Math.min(n, 3)]);
            int most = 0;
            for (int p = 0; p < 8; p++) {
                most = Math.max(most, y.player(p, 2));
            }
            due("the longest one played", x.longest(n, 0), most);
            y.round();
        }
        due("longest(0, 0)", busy().longest(0, 0), 3);
        due("longest(1, 0)", busy().longest(1, 0), 5);
    }

    private static void whoLeadsTheLongest() {
        due("longest(0, 1), all alike", hallOf(EIGHT).longest(0, 1), 0);
        due("longest(1, 1)", hallOf(EIGHT).longest(1, 1), 1);
        due("longest(9, 1)", hallOf(EIGHT).longest(9, 1), hallOf(EIGHT).left(0));
        due("longest(0, 1)", busy().longest(0, 1), 0);
        due("longest(1, 1)", busy().longest(1, 1), 3);
        FistTrains x = hallOf("steady0 steady1 steady0 steady1 steady0");
        x.bout(2, 3);
        due("longest(0, 1), the longest is not the first", x.longest(0, 1), 3);
        x.bout(0, 1);
        due("longest(0, 1), the first of two", x.longest(0, 1), 1);
    }

    private static void longestOfNoRounds() {
        due("longest(0, 1)", busy().longest(0, 1), 0);
        due("longest(9, 1)", busy().longest(9, 1), 3);
        for (int n : new int[] {-1, 10, 11, LEAST, MOST}) {
            refused("longest(" + n + ", 0)", BAD, x -> x.longest(n, 0));
            refused("longest(" + n + ", 1)", BAD, x -> x.longest(n, 1));
        }
    }

    private static void longestOfNoWhat() {
        for (int what : NO_PAIR_WHATS) {
            refused("longest(0, " + what + ")", BAD, x -> x.longest(0, what));
            refused("longest(9, " + what + ")", BAD, x -> x.longest(9, what));
        }
    }

    private static void longestOfNoHall() {
        refused(EdgesTest::withoutHall, "longest(0, 0)", STATE, x -> x.longest(0, 0));
        refused(EdgesTest::withoutHall, "longest(9, 1)", STATE, x -> x.longest(9, 1));
    }

    private static void longestOfNoHallAheadOfBad() {
        refused(EdgesTest::withoutHall, "longest(10, 0)", STATE, x -> x.longest(10, 0));
        refused(EdgesTest::withoutHall, "longest(-1, 0)", STATE, x -> x.longest(-1, 0));
        refused(EdgesTest::withoutHall, "longest(0, 2)", STATE, x -> x.longest(0, 2));
        refused(EdgesTest::withoutHall, "longest(0, -1)", STATE, x -> x.longest(0, -1));
    }

    // ---- promises 18, 19

    private static void foretellingOfHands() {
        section("Promise 18");
        sentence("BEGIN.", EdgesTest::begin);
        sentence("BAD;", EdgesTest::beginOfNoPlayer);
        sentence("STATE: he does not LEAD.", EdgesTest::beginOfNoLeader);
        section("Promise 19");
        sentence("SEEK.", EdgesTest::seek);
        sentence("BAD;", EdgesTest::seekOfNoPlayer);
        sentence("STATE: he does not LEAD.", EdgesTest::seekOfNoLeader);
    }

    /** For how many rounds a player leads by a hand: it is tried on the object itself, and undone. */
    private static int roundsLed(FistTrains x, int player, int hand) {
        x.hand(player, hand);
        int led = 0;
        for (int i = 0; i < 3 && x.count(2) > 1 && x.player(player, 1) == player; i++) {
            x.round();
            led += x.player(player, 1) == player ? 1 : 0;
        }
        boolean isLeft = x.player(player, 1) == player;
        for (int i = 0; i < 4 && x.count(5) > 0; i++) {
            x.undo();
        }
        return isLeft ? 100 : led;
    }

    private static void begin() {
        String[] halls = {EIGHT, "steady0 steady1 steady0 steady2", "boy1 boy1 boy1 boy1 boy1", "spy2 spy1 spy0 mirror0",
            "teacher1 teacher1 mirror1 boy0 steady2 steady2 teacher0", "boy2"};
        for (String players : halls) {
            int many = players.split(" ").length;
            for (int p = 0; p < many; p++) {
                FistTrains x = hallOf(players);
                int best = 0;
                for (int hand = 1; hand < 3; hand++) {
                    best = roundsLed(x, p, hand) > roundsLed(x, p, best) ? hand : best;
                }
                due("begin(" + p + ") of " + players, x.begin(p), best);
            }
        }
        due("begin(0) of busy()", busy().begin(0), 0);
    }

    private static void beginOfNoPlayer() {
        for (int p : NO_PLAYERS) {
            refused("begin(" + p + ")", BAD, x -> x.begin(p));
        }
        refused(EdgesTest::withoutHall, "begin(0)", BAD, x -> x.begin(0));
    }

    private static void beginOfNoLeader() {
        for (int p : new int[] {1, 2, 4}) {
            refused("begin(" + p + ")", STATE, x -> x.begin(p));
        }
        refused(EdgesTest::withOneLeader, "begin(0)", STATE, x -> x.begin(0));
        due("begin(3), who leads alone", withOneLeader().begin(3), 0);
    }

    private static void seek() {
        String[] halls = {EIGHT, "steady0 steady1 steady0 steady2", "boy1 boy1 boy1 boy1 boy1", "spy2 spy1 spy0 mirror0"};
        for (String players : halls) {
            FistTrains x = hallOf(players);
            int many = x.count(1);
            for (int p = 0; p < many; p++) {
                int bits = 0;
                for (int other = 0; other < many; other++) {
                    if (other != p) {
                        x.bout(p, other);
                        bits |= x.left(0) == p ? 1 << other : 0;
                        x.undo();
                    }
                }
                due("seek(" + p + ") of " + players, x.seek(p), bits);
            }
        }
        due("seek(3) of busy()", busy().seek(3), 1);
        due("seek(3), alone", withOneLeader().seek(3), 0);
    }

    private static void seekOfNoPlayer() {
        for (int p : NO_PLAYERS) {
            refused("seek(" + p + ")", BAD, x -> x.seek(p));
        }
        refused(EdgesTest::withoutHall, "seek(0)", BAD, x -> x.seek(0));
    }

    private static void seekOfNoLeader() {
        for (int p : new int[] {1, 2, 4}) {
            refused("seek(" + p + ")", STATE, x -> x.seek(p));
        }
        refused(EdgesTest::withOneLeader, "seek(0)", STATE, x -> x.seek(0));
    }

    // ---- promises 20, 21

    private static void fewestAndBegun() {
        section("Promise 20");
        sentence("FEWEST: how many (k = -1)", EdgesTest::fewestAnswers);
        sentence("the HAND of PLAYER k then", EdgesTest::handThen);
        sentence("(of one who does not LEAD as it is);", EdgesTest::handOfOneBehind);
        sentence("NONE.", EdgesTest::fewestOfNone);
        sentence("BAD;", EdgesTest::fewestOfNoPlayer);
        sentence("(k = -1), the HAND of PLAYER k", EdgesTest::fewestOfNoK);
        sentence("STATE: he does not LEAD.", EdgesTest::fewestOfNoLeader);
        section("Promise 21");
        sentence("BEGUN.", EdgesTest::begun);
        sentence("BAD;", EdgesTest::begunOfNoPlayer);
        sentence("STATE: one does not LEAD.", EdgesTest::begunOfNoLeader);
    }

    /** Bouts "01 23" are 0 against 1, then 2 against 3. */
    private static FistTrains behindBouts(String players, String bouts) {
        FistTrains x = hallOf(players);
        for (String bout : bouts.isEmpty() ? new String[0] : bouts.split(" ")) {
            x.bout(bout.charAt(0) - '0', bout.charAt(1) - '0');
        }
        return x;
    }

    /** Who is left by each row of hands, all rows in their order; none, where one who does not lead has another hand. */
    private static int[] leftByRow(String players, String bouts) {
        FistTrains x = behindBouts(players, bouts);
        int many = x.count(1);
        String handsNow = hands(x);
        String leadersNow = leaders(x);
        int[] left = new int[(int) Math.pow(3, many)];
        for (int row = 0; row < left.length; row++) {
            if (row % 20 == 0) {
                x = behindBouts(players, bouts);
            }
            boolean mayBe = true;
            for (int p = 0; p < many; p++) {
                int hand = handOf(row, p, many);
                mayBe &= leadersNow.charAt(p) == '0' + p || handsNow.charAt(p) == '0' + hand;
                x.hand(p, hand);
            }
            left[row] = mayBe ? x.left(0) : NONE;
        }
        return left;
    }

    private static int handOf(int row, int player, int many) {
        int rest = row;
        for (int p = many - 1; p > player; p--) {
            rest /= 3;
        }
        return rest % 3;
    }

    /** The best way, by trying all: how many have another hand, then the hands; empty for none. */
    private static String bestWay(String handsNow, int[] left, int player) {
        int many = handsNow.length();
        String best = "";
        int fewest = many + 1;
        for (int row = 0; row < left.length; row++) {
            StringBuilder told = new StringBuilder();
            int others = 0;
            for (int p = 0; left[row] == player && p < many; p++) {
                told.append(handOf(row, p, many));
                others += told.charAt(p) == handsNow.charAt(p) ? 0 : 1;
            }
            if (left[row] == player && others < fewest) {
                fewest = others;
                best = told.toString();
            }
        }
        return best.isEmpty() ? "" : fewest + best;
    }

    private static void fewestAsTried(String players, String bouts) {
        FistTrains x = behindBouts(players, bouts);
        int[] left = leftByRow(players, bouts);
        int many = x.count(1);
        for (int p = 0; p < many; p++) {
            if (x.player(p, 1) == p) {
                StringBuilder told = new StringBuilder();
                for (int k = -1; k < many; k++) {
                    int answer = x.fewest(p, k);
                    told.append(answer == NONE ? "" : answer);
                }
                due("fewest(" + p + ", ..) of " + players + " behind bouts " + bouts, told.toString(),
                    bestWay(hands(x), left, p));
            }
        }
    }

    private static void fewestAnswers() {
        due("fewest(0, -1), none", hallOf("steady1 steady1").fewest(0, -1), 0);
        due("fewest(1, -1), one", hallOf("steady1 steady1").fewest(1, -1), 1);
        due("fewest(2, -1), two", hallOf("steady1 steady1 steady1 steady0").fewest(2, -1), 2);
        due("fewest(3, -1), three", hallOf("steady1 steady1 steady0 steady0 boy0").fewest(3, -1), 3);
        due("fewest(0, -1), alone", hallOf("boy2").fewest(0, -1), 0);
        due("fewest(3, -1), alone", withOneLeader().fewest(3, -1), 0);
        FistTrains x = hallOf("boy1 boy1 boy1 boy1 boy1 boy1 boy1 boy1");
        due("fewest(0, -1), of eight", x.fewest(0, -1), 0);
    }

    private static void handThen() {
        fewestAsTried("steady1 steady1", "");
        fewestAsTried("steady0 teacher0 mirror1", "");
        fewestAsTried("steady1 boy1 boy1 steady0", "");
        fewestAsTried("boy2 boy0 steady0 steady0 boy2", "");
        fewestAsTried(EIGHT, "");
        FistTrains x = hallOf("boy0 spy1 steady2 steady1 teacher2 mirror0 mirror1 boy2");
        for (int k = 0; k < 8; k++) {
            due("fewest(1, " + k + "), no other HAND", x.fewest(1, k), x.player(k, 0));
        }
    }

    private static void handOfOneBehind() {
        FistTrains x = hallOf("steady2 steady0 steady0");
        x.bout(0, 1);
        due("fewest(2, 0)", x.fewest(2, 0), 2);
        x.hand(0, 1);
        due("fewest(2, 0)", x.fewest(2, 0), 1);
        x.hand(0, 0);
        due("fewest(2, 0)", x.fewest(2, 0), 0);
        fewestAsTried("steady2 steady0 steady0 boy1", "01");
        fewestAsTried("boy1 steady1 mirror1 teacher2", "23");
        fewestAsTried("steady1 steady1 steady0", "12");
        fewestAsTried("steady0 steady0 steady2 steady1 steady1", "23 34");
        fewestAsTried("steady1 steady0 steady0 steady2 steady1", "03 34");
        fewestAsTried("teacher0 boy1 spy1 mirror2 boy1 spy1", "53 05");
        fewestAsTried("steady0 teacher2 boy0 teacher1 steady1 mirror1 mirror2 boy0", "70 75");
        fewestAsTried("boy1 steady1 boy1 steady1 teacher0 boy0 steady0 mirror0", "01");
    }

    private static void fewestOfNone() {
        foretold(() -> hallOf("spy0 boy0 boy2"), "fewest(1, -1)", NONE, x -> x.fewest(1, -1));
        for (int k = 0; k < 3; k++) {
            int told = k;
            foretold(() -> hallOf("spy0 boy0 boy2"), "fewest(2, " + k + ")", NONE, x -> x.fewest(2, told));
        }
        foretold(Sentences::busy, "fewest(0, -1)", NONE, x -> x.fewest(0, -1));
        foretold(Sentences::busy, "fewest(0, 1), who does not lead", NONE, x -> x.fewest(0, 1));
    }

    private static void fewestOfNoPlayer() {
        for (int p : NO_PLAYERS) {
            refused("fewest(" + p + ", -1)", BAD, x -> x.fewest(p, -1));
            refused("fewest(" + p + ", 0)", BAD, x -> x.fewest(p, 0));
        }
        refused(EdgesTest::withoutHall, "fewest(0, -1)", BAD, x -> x.fewest(0, -1));
    }

    private static void fewestOfNoK() {
        due("fewest(3, -1)", busy().fewest(3, -1), 0);
        due("fewest(3, 4)", busy().fewest(3, 4), 1);
        for (int k : new int[] {-2, 5, 7, 8, LEAST, MOST}) {
            refused("fewest(3, " + k + ")", BAD, x -> x.fewest(3, k));
            refused("fewest(0, " + k + "), of NONE", BAD, x -> x.fewest(0, k));
            refused("fewest(1, " + k + "), who does not lead", BAD, x -> x.fewest(1, k));
        }
    }

    private static void fewestOfNoLeader() {
        for (int p : new int[] {1, 2, 4}) {
            refused("fewest(" + p + ", -1)", STATE, x -> x.fewest(p, -1));
            refused("fewest(" + p + ", 3)", STATE, x -> x.fewest(p, 3));
        }
        due("fewest(3, 1), of one who does not lead", busy().fewest(3, 1), 2);
    }

    private static void begun() {
        String[] halls = {EIGHT, "steady1 steady1 steady1", "boy1 boy1 boy1 boy1 boy1", "spy2 spy1 spy0 mirror0"};
        for (String players : halls) {
            int many = players.split(" ").length;
            for (int p = 0; p < many; p++) {
                FistTrains x = hallOf(players);
                for (int told = 0; told < many; told++) {
                    int bits = 0;
                    for (int hand = 0; hand < 3; hand++) {
                        x.hand(p, hand);
                        bits |= x.left(0) == told ? 1 << hand : 0;
                        x.undo();
                    }
                    due("begun(" + p + ", " + told + ") of " + players, x.begun(p, told), bits);
                }
            }
        }
        due("begun(0, 0), alone", hallOf("boy2").begun(0, 0), 7);
        due("begun(0, 0), never", busy().begun(0, 0), 0);
        due("begun(3, 3), alike", busy().begun(3, 3), 7);
    }

    private static void begunOfNoPlayer() {
        for (int p : NO_PLAYERS) {
            refused("begun(" + p + ", 0)", BAD, x -> x.begun(p, 0));
            refused("begun(0, " + p + ")", BAD, x -> x.begun(0, p));
            refused("begun(" + p + ", 1), who does not lead", BAD, x -> x.begun(p, 1));
            refused("begun(1, " + p + "), who does not lead", BAD, x -> x.begun(1, p));
        }
        refused(EdgesTest::withoutHall, "begun(0, 0)", BAD, x -> x.begun(0, 0));
    }

    private static void begunOfNoLeader() {
        for (int p : new int[] {1, 2, 4}) {
            refused("begun(" + p + ", 0)", STATE, x -> x.begun(p, 0));
            refused("begun(0, " + p + ")", STATE, x -> x.begun(0, p));
            refused("begun(" + p + ", " + p + ")", STATE, x -> x.begun(p, p));
        }
    }

    // ---- promises 22, 23

    private static void odds() {
        section("Promise 22");
        sentence("ODDS: above (what = 0)", EdgesTest::oddsAbove);
        sentence("below (1);", EdgesTest::oddsBelow);
        sentence("NONE.", EdgesTest::oddsOfTiesAlone);
        sentence("BAD: A, B, C, too.", EdgesTest::oddsOfNoShares);
        sentence("NONE. BAD:", EdgesTest::oddsOfNoHand);
        sentence("BAD: A, B, C", EdgesTest::oddsOfNoWhat);
        section("Promise 23");
        sentence("GAIN;", EdgesTest::gain);
        sentence("NONE.", EdgesTest::gainOfNone);
        sentence("BAD.", EdgesTest::gainOfNoShares);
    }

    private static int divisorOf(int wins, int all) {
        return wins == 0 ? all : divisorOf(all % wins, wins);
    }

    /** Against stone, paper, scissors a hand wins by the one that it beats, and loses by the one that beats it. */
    private static void eachOddsDue(int what) {
        FistTrains x = new FistTrains();
        for (int a = 0; a <= 9; a++) {
            for (int b = 0; b <= 9 - a; b++) {
                int[] shares = {a, b, 9 - a - b};
                for (int hand = 0; hand < 3; hand++) {
                    int wins = shares[(hand + 2) % 3];
                    int all = wins + shares[(hand + 1) % 3];
                    int divisor = divisorOf(wins, all);
                    int want = all == 0 ? NONE : (what == 0 ? wins : all) / divisor;
                    due("odds(" + hand + ", " + a + ", " + b + ", " + shares[2] + ", " + what + ")",
                        x.odds(hand, a, b, shares[2], what), want);
                }
            }
        }
    }

    private static void oddsAbove() {
        eachOddsDue(0);
        due("odds, without a HALL", withoutHall().odds(0, 0, 3, 6, 0), 2);
    }

    private static void oddsBelow() {
        eachOddsDue(1);
        due("odds, without a HALL", withoutHall().odds(0, 0, 3, 6, 1), 3);
    }

    private static void oddsOfTiesAlone() {
        for (int what = 0; what < 2; what++) {
            int told = what;
            foretold(Sentences::busy, "odds(0, 9, 0, 0, " + what + ")", NONE, x -> x.odds(0, 9, 0, 0, told));
            foretold(Sentences::busy, "odds(1, 0, 9, 0, " + what + ")", NONE, x -> x.odds(1, 0, 9, 0, told));
            foretold(Sentences::busy, "odds(2, 0, 0, 9, " + what + ")", NONE, x -> x.odds(2, 0, 0, 9, told));
        }
        due("one of another HAND", busy().odds(0, 8, 1, 0, 0), 0);
    }

    private static final int[][] NO_SHARES = {{3, 3, 2}, {3, 3, 4}, {0, 0, 0}, {9, 9, 9}, {9, 0, 1}, {8, 0, 0}, {10, 0, 0},
        {0, 10, 0}, {0, 0, 10}, {-1, 5, 5}, {5, -1, 5}, {5, 5, -1}, {10, -1, 0}, {-1, 0, 10}, {0, 10, -1}, {-9, 9, 9},
        {LEAST, LEAST, 9}, {9, LEAST, LEAST}, {LEAST, 9, LEAST}, {MOST, MOST, 11}, {MOST, 11, MOST}, {11, MOST, MOST},
        {LEAST, 0, 0}, {0, MOST, 0}};

    private static void oddsOfNoShares() {
        for (int[] s : NO_SHARES) {
            String shares = s[0] + ", " + s[1] + ", " + s[2];
            refused("odds(0, " + shares + ", 0)", BAD, x -> x.odds(0, s[0], s[1], s[2], 0));
            refused("odds(2, " + shares + ", 1)", BAD, x -> x.odds(2, s[0], s[1], s[2], 1));
        }
    }

    private static void oddsOfNoHand() {
        for (int hand : NO_HANDS) {
            refused("odds(" + hand + ", 3, 3, 3, 0)", BAD, x -> x.odds(hand, 3, 3, 3, 0));
            refused("odds(" + hand + ", 9, 0, 0, 1)", BAD, x -> x.odds(hand, 9, 0, 0, 1));
        }
    }

    private static void oddsOfNoWhat() {
        for (int what : NO_PAIR_WHATS) {
            refused("odds(0, 3, 3, 3, " + what + ")", BAD, x -> x.odds(0, 3, 3, 3, what));
            refused("odds(0, 9, 0, 0, " + what + "), of ties alone", BAD, x -> x.odds(0, 9, 0, 0, what));
        }
    }

    private static void gain() {
        FistTrains x = new FistTrains();
        for (int a = 0; a <= 9; a++) {
            for (int b = 0; b <= 9 - a; b++) {
                int[] shares = {a, b, 9 - a - b};
                int best = NONE;
                for (int hand = 2; hand >= 0; hand--) {
                    int wins = shares[(hand + 2) % 3];
                    int all = wins + shares[(hand + 1) % 3];
                    int than = best == NONE ? 0 : shares[(best + 2) % 3];
                    int of = best == NONE ? 1 : than + shares[(best + 1) % 3];
                    if (all > 0 && wins * of >= than * all) {
                        best = hand;
                    }
                }
                due("gain(" + a + ", " + b + ", " + shares[2] + ")", x.gain(a, b, shares[2]), best);
            }
        }
        due("gain, without a HALL", withoutHall().gain(9, 0, 0), 1);
    }

    /** Of nine together two hands at the least have odds: there is never none. */
    private static void gainOfNone() {
        foretold(Sentences::busy, "gain(9, 0, 0)", 1, x -> x.gain(9, 0, 0));
        foretold(Sentences::busy, "gain(0, 9, 0)", 2, x -> x.gain(0, 9, 0));
        foretold(Sentences::busy, "gain(0, 0, 9)", 0, x -> x.gain(0, 0, 9));
    }

    private static void gainOfNoShares() {
        for (int[] s : NO_SHARES) {
            refused("gain(" + s[0] + ", " + s[1] + ", " + s[2] + ")", BAD, x -> x.gain(s[0], s[1], s[2]));
        }
    }

    // ---- promises 24, 25

    private static void images() {
        section("Promise 24");
        sentence("An IMAGE (0, 1) is kept of the HALL: 1.", EdgesTest::imageIsKept);
        sentence("BAD;", EdgesTest::imageOfNoK);
        sentence("STATE: no HALL.", EdgesTest::imageOfNoHall);
        section("Promise 25");
        sentence("The HALL is as an IMAGE kept it", EdgesTest::hallAsKept);
        sentence("(no ACT can be undone then)", EdgesTest::noActsThen);
        sentence("then): 1.", EdgesTest::restoreAnswers);
        sentence("BAD;", EdgesTest::restoreOfNoK);
        sentence("STATE: none was kept.", EdgesTest::restoreOfNone);
    }

    private static void imageIsKept() {
        FistTrains x = hallOf("boy0 boy1");
        due("image(0)", x.image(0), 1);
        x.hand(0, 2);
        due("image(1)", x.image(1), 1);
        x.hand(0, 1);
        x.restore(0);
        due("hands of image 0", hands(x), "01");
        x.restore(1);
        due("hands of image 1", hands(x), "21");
        due("image(0), in place of the one before", x.image(0), 1);
        x.hand(1, 0);
        x.restore(0);
        due("hands of image 0", hands(x), "21");
        FistTrains y = busy();
        String before = seen(y);
        y.image(1);
        due("an IMAGE is no ACT, and changes no HALL", seen(y), before);
    }

    private static void imageOfNoK() {
        for (int k : new int[] {-1, 2, 3, LEAST, MOST}) {
            refused("image(" + k + ")", BAD, x -> x.image(k));
            refused(EdgesTest::withoutHall, "image(" + k + "), no HALL", BAD, x -> x.image(k));
        }
    }

    private static void imageOfNoHall() {
        for (int k = 0; k < 2; k++) {
            int told = k;
            refused(EdgesTest::withoutHall, "image(" + k + ")", STATE, x -> x.image(told));
        }
        FistTrains x = withoutHall();
        x.image(0);
        due("restore(0), none was kept", x.restore(0), STATE);
    }

    private static void hallAsKept() {
        FistTrains x = busy();
        String hall = leaders(x) + hands(x) + trains(x) + x.count(3) + x.count(4) + x.left(2);
        x.image(1);
        x.round();
        x.hand(2, 1);
        x.hall();
        read(x, textOf("spy0 mirror1 teacher2 boy0 steady1 spy2 spy1 boy0"));
        x.round();
        x.restore(1);
        due("the HALL", leaders(x) + hands(x) + trains(x) + x.count(3) + x.count(4) + x.left(2), hall);
        due("count(1)", x.count(1), 5);
        for (int p = 0; p < 5; p++) {
            due("kind(" + p + ")", x.kind(p), new int[] {2, 1, 4, 5, 3}[p]);
        }
        due("kind(5)", x.kind(5), BAD);
        x.round();
        x.restore(1);
        due("the HALL, once more", leaders(x) + hands(x) + trains(x) + x.count(3) + x.count(4) + x.left(2), hall);
        due("count(0), ROWS stay", x.count(0), 4);
        x.feed(32, 1);
        x.restore(0);
        due("count(6), the tape stays", x.count(6), 1);
        due("count(3) of image 0", x.count(3), 0);
        due("count(4) of image 0", x.count(4), 0);
        due("leaders of image 0", leaders(x), "01234");
        due("hands of image 0", hands(x), "01201");
        due("fault() stays", x.fault(), 2);
        due("trace(0) stays", x.trace(0), 23);
    }

    private static void noActsThen() {
        FistTrains x = busy();
        due("count(5)", x.count(5), 3);
        x.restore(0);
        due("count(5)", x.count(5), 0);
        due("undo()", x.undo(), STATE);
        x.hand(0, 1);
        due("count(5), of those since", x.count(5), 1);
        due("undo()", x.undo(), 0);
        due("hands", hands(x), "01201");
    }

    private static void restoreAnswers() {
        FistTrains x = busy();
        x.image(1);
        due("restore(0)", x.restore(0), 1);
        due("restore(1)", x.restore(1), 1);
        due("restore(1), of the same", x.restore(1), 1);
    }

    private static void restoreOfNoK() {
        for (int k : new int[] {-1, 2, 3, LEAST, MOST}) {
            refused("restore(" + k + ")", BAD, x -> x.restore(k));
            refused(EdgesTest::withoutHall, "restore(" + k + "), no HALL", BAD, x -> x.restore(k));
        }
    }

    private static void restoreOfNone() {
        refused("restore(1)", STATE, x -> x.restore(1));
        refused(EdgesTest::withoutHall, "restore(0)", STATE, x -> x.restore(0));
        refused(EdgesTest::withoutHall, "restore(1)", STATE, x -> x.restore(1));
        FistTrains x = hallOf("boy0");
        x.image(1);
        due("restore(0), but 1 was kept", x.restore(0), STATE);
        due("restore(1)", x.restore(1), 1);
    }

    // ---- promises 26 to 29

    private static void kinds() {
        section("Promise 26");
        sentence("The KIND of a PLAYER, as told (1 to 5).", EdgesTest::kindAsTold);
        sentence("BAD.", EdgesTest::kindOfNoPlayer);
        section("Promise 27");
        sentence("A PLAYER is taken as one of a KIND (0 .. 5): the PLAYER's number.", EdgesTest::takenAsKind);
        sentence("BAD;", EdgesTest::asOfNoPlayer);
        sentence("(0 .. 5):", EdgesTest::asOfNoKind);
        sentence("KIND: he is no such one.", EdgesTest::asOfAnotherKind);
        section("Promise 28");
        sentence("An ASK (0, 1) of a PLAYER.", EdgesTest::asks);
        sentence("BAD.", EdgesTest::askOfNoPlayer);
        sentence("(0, 1)", EdgesTest::askOfNoWhat);
        sentence("THE TRACE is empty ahead of it", EdgesTest::traceIsEmptyAhead);
        sentence("(where that is refused it stays).", EdgesTest::traceStays);
        section("Promise 29");
        sentence("Number i of THE TRACE;", EdgesTest::numberOfTheTrace);
        sentence("NONE.", EdgesTest::noNumberOfTheTrace);
    }

    private static void kindAsTold() {
        FistTrains x = hallOf("spy0 mirror0 teacher0 steady0 boy0 boy1 spy1 steady2");
        int[] dues = {5, 4, 3, 2, 1, 1, 5, 2};
        for (int p = 0; p < 8; p++) {
            due("kind(" + p + ")", x.kind(p), dues[p]);
        }
        x.as(0, 4);
        x.as(2, 1);
        x.round();
        due("kind(0), taken as another", x.kind(0), 5);
        due("kind(2), taken as another", x.kind(2), 3);
    }

    private static void kindOfNoPlayer() {
        for (int p : NO_PLAYERS) {
            refused("kind(" + p + ")", BAD, x -> x.kind(p));
        }
        refused(EdgesTest::withoutHall, "kind(0)", BAD, x -> x.kind(0));
    }

    private static final String KINDS_OF_BUSY = "2 1 4 5 3";

    /** Of a kind of player, the kinds that it is. */
    private static String kindsOf(int kind) {
        return new String[] {"0", "01", "012", "013", "04", "045"}[kind];
    }

    private static void takenAsKind() {
        String[] kinds = KINDS_OF_BUSY.split(" ");
        for (int p = 0; p < 5; p++) {
            for (char kind : kindsOf(Integer.parseInt(kinds[p])).toCharArray()) {
                FistTrains x = busy();
                due("as(" + p + ", " + kind + ")", x.as(p, kind - '0'), p);
                due("status()", x.status(), 0);
                due("all behind it", allOf(x), allOf(busy()));
            }
        }
    }

    private static void asOfNoPlayer() {
        for (int p : NO_PLAYERS) {
            refused("as(" + p + ", 0)", BAD, x -> x.as(p, 0));
        }
        refused(EdgesTest::withoutHall, "as(0, 0)", BAD, x -> x.as(0, 0));
    }

    private static void asOfNoKind() {
        due("as(3, 0)", busy().as(3, 0), 3);
        due("as(3, 5)", busy().as(3, 5), 3);
        for (int kind : new int[] {-1, 6, 7, LEAST, MOST}) {
            refused("as(0, " + kind + ")", BAD, x -> x.as(0, kind));
            refused("as(3, " + kind + ")", BAD, x -> x.as(3, kind));
        }
    }

    private static void asOfAnotherKind() {
        String[] kinds = KINDS_OF_BUSY.split(" ");
        for (int p = 0; p < 5; p++) {
            for (int kind = 0; kind <= 5; kind++) {
                if (kindsOf(Integer.parseInt(kinds[p])).indexOf('0' + kind) < 0) {
                    int told = p;
                    int none = kind;
                    refused("as(" + p + ", " + kind + ")", KIND, x -> x.as(told, none));
                }
            }
        }
    }

    private static void asks() {
        FistTrains x = busy();
        int[] sizes = {-3, 3 + 1 + 2, 3 - 100, 2 * (2 - 100), 2 + 4 + 1 - 1000};
        int[] marks = {0, 1 + 2, 2 - (3 - 100), 3 - 2 * (2 - 100), 4 + 1 - 1000};
        for (int p = 0; p < 5; p++) {
            due("ask(" + p + ", 0)", x.ask(p, 0), sizes[p]);
            due("ask(" + p + ", 1)", x.ask(p, 1), marks[p]);
        }
        due("status()", x.status(), 2);
        FistTrains eight = hallOf("mirror0 boy0 boy0 boy0 boy0 boy0 boy0 steady2");
        due("ask(7, 1), the last", eight.ask(7, 1), 18);
        due("ask(7, 0), the last", eight.ask(7, 0), -19);
    }

    private static void askOfNoPlayer() {
        for (int p : NO_PLAYERS) {
            refused("ask(" + p + ", 0)", BAD, x -> x.ask(p, 0));
            refused("ask(" + p + ", 1)", BAD, x -> x.ask(p, 1));
        }
        refused(EdgesTest::withoutHall, "ask(0, 0)", BAD, x -> x.ask(0, 0));
    }

    private static void askOfNoWhat() {
        for (int what : NO_PAIR_WHATS) {
            refused("ask(0, " + what + ")", BAD, x -> x.ask(0, what));
        }
    }

    private static void traceIsEmptyAhead() {
        FistTrains x = busy();
        due("trace", trace(x), "23 20 14 13 10");
        x.ask(2, 0);
        due("trace of a shorter one", trace(x), "13 10");
        x.ask(0, 0);
        due("trace of a longer one", trace(x), "12 11 10 24 21 20");
        x.ask(0, 0);
        due("trace of the same", trace(x), "12 11 10 24 21 20");
    }

    private static void traceStays() {
        FistTrains x = busy();
        x.ask(5, 0);
        x.ask(-1, 1);
        x.ask(0, 2);
        x.ask(0, -1);
        due("trace", trace(x), "23 20 14 13 10");
        FistTrains y = withoutHall();
        y.ask(0, 0);
        due("trace of none", trace(y), "");
    }

    private static void numberOfTheTrace() {
        FistTrains x = busy();
        x.ask(0, 0);
        int[] bodies = {12, 11, 10, 24, 21, 20};
        for (int i = 5; i >= 0; i--) {
            due("trace(" + i + ")", x.trace(i), bodies[i]);
        }
    }

    private static void noNumberOfTheTrace() {
        for (int i : new int[] {-1, 5, 6, 15, 16, 17, LEAST, MOST}) {
            foretold(Sentences::busy, "trace(" + i + ") of five", NONE, x -> x.trace(i));
            due("trace(" + i + ") of none", new FistTrains().trace(i), NONE);
        }
        due("trace(0), the first", busy().trace(0), 23);
        due("trace(4), the last", busy().trace(4), 10);
        due("trace(0) of none", new FistTrains().trace(0), NONE);
    }

    // ---- promises 30, 31

    private static void counts() {
        section("Promise 30");
        sentence("How many: 0 ROWS", EdgesTest::countOfRows);
        sentence("1 PLAYERS, 2 who LEAD", EdgesTest::countOfPlayers);
        sentence("2 who LEAD", EdgesTest::countOfLeaders);
        sentence("3 ROUND", EdgesTest::countOfRounds);
        sentence("4 TIME", EdgesTest::countOfTime);
        sentence("5 ACTS that can be undone", EdgesTest::countOfActs);
        sentence("6 bytes on the tape.", EdgesTest::countOfBytes);
        sentence("BAD.", EdgesTest::countOfNoWhat);
        section("Promise 31");
        sentence("Of the latest call with a ROW, or as()", EdgesTest::statusOfCalls);
        sentence("that was not BAD, STATE, FULL:", EdgesTest::statusOfRefusals);
        sentence("the number of its FINDING;", EdgesTest::statusOfFindings);
        sentence("0: it had none", EdgesTest::statusOfNoFinding);
        sentence("or there was none.", EdgesTest::statusOfNoCall);
    }

    private static void countOfRows() {
        FistTrains x = new FistTrains();
        for (int row = 7; row >= 0; row--) {
            x.row(row, row % 3, row * 5);
            due("count(0)", x.count(0), 8 - row);
        }
        x.row(0, 2, 7);
        due("count(0), one in place", x.count(0), 8);
        x.drop(0);
        due("count(0)", x.count(0), 7);
    }

    private static void countOfPlayers() {
        FistTrains x = new FistTrains();
        for (int players = 0; players <= 8; players++) {
            if (players > 0) {
                read(x, "player boy 1;".repeat(players));
            }
            due("count(1)", x.count(1), players);
        }
        x.round();
        due("count(1), behind a round", x.count(1), 8);
    }

    private static void countOfLeaders() {
        FistTrains x = hallOf("boy1 boy1 boy1 boy1 boy1 boy1 boy1 boy1");
        due("count(2)", x.count(2), 8);
        x.bout(6, 7);
        due("count(2)", x.count(2), 7);
        x.round();
        due("count(2)", x.count(2), 4);
        x.round();
        x.round();
        due("count(2)", x.count(2), 1);
        due("count(2), no HALL", new FistTrains().count(2), 0);
    }

    private static void countOfRounds() {
        FistTrains x = hallOf("boy1 boy1 boy1 boy1 boy1 boy1");
        x.bout(4, 5);
        due("count(3)", x.count(3), 0);
        for (int round = 1; round <= 3; round++) {
            x.round();
            due("count(3)", x.count(3), round);
        }
        x.round();
        due("count(3), behind a refused one", x.count(3), 3);
        x.undo();
        due("count(3), undone", x.count(3), 2);
    }

    private static void countOfTime() {
        FistTrains x = hallOf("steady0 steady1 steady1 boy1");
        x.bout(0, 1);
        due("count(4)", x.count(4), 1);
        x.round();
        due("count(4)", x.count(4), 1 + 9);
        x.round();
        due("count(4)", x.count(4), 1 + 9 + 2);
        x.hand(0, 2);
        due("count(4), behind a hand", x.count(4), 12);
        x.undo();
        x.undo();
        due("count(4), undone", x.count(4), 10);
    }

    private static void countOfActs() {
        FistTrains x = hallOf("boy1 boy1");
        for (int acts = 1; acts <= 26; acts++) {
            x.hand(0, 1);
            due("count(5)", x.count(5), Math.min(acts, 24));
        }
        x.undo();
        due("count(5)", x.count(5), 23);
    }

    private static void countOfBytes() {
        FistTrains x = new FistTrains();
        for (int bytes = 8; bytes <= 200; bytes += 8) {
            x.feed(32, 8);
            due("count(6)", x.count(6), bytes);
        }
        x.feed(32, 1);
        due("count(6), full", x.count(6), 200);
        x.hall();
        due("count(6), read", x.count(6), 0);
    }

    private static void countOfNoWhat() {
        for (int what : new int[] {-1, 7, 8, LEAST, MOST}) {
            refused("count(" + what + ")", BAD, x -> x.count(what));
        }
    }

    /** A hall whose latest finding is KIND; row 0 has three items, row 1 none. */
    private static FistTrains withKindFound() {
        FistTrains x = hallOf("boy0 boy1 boy2");
        x.row(0, 0, 3);
        x.row(1, 0, 0);
        x.as(0, 5);
        return x;
    }

    private static void statusDue(String call, int status, Consumer<FistTrains> made) {
        FistTrains x = withKindFound();
        made.accept(x);
        due("status() behind " + call, x.status(), status);
        due("status(), asked again", x.status(), status);
    }

    private static void statusOfCalls() {
        statusDue("row", 0, x -> x.row(2, 0, 1));
        statusDue("set", 0, x -> x.set(0, 0, 1));
        statusDue("copy", 0, x -> x.copy(0, 0, 0, 1, 1));
        statusDue("drop", 0, x -> x.drop(0));
        statusDue("hands", 0, x -> x.hands(0));
        statusDue("as", 0, x -> x.as(0, 1));
        statusDue("feed", 3, x -> x.feed(0, 1));
        statusDue("hall", 3, x -> read(x, "player boy 0;"));
        statusDue("a faulty hall", 3, FistTrains::hall);
        statusDue("bout", 3, x -> x.bout(0, 1));
        statusDue("round", 3, FistTrains::round);
        statusDue("hand", 3, x -> x.hand(0, 1));
        statusDue("undo", 3, x -> {
            x.hand(0, 1);
            x.undo();
        });
        statusDue("player", 3, x -> x.player(0, 0));
        statusDue("beats", 3, x -> x.beats(0, 1, 0));
        statusDue("left", 3, x -> x.left(0));
        statusDue("longest", 3, x -> x.longest(0, 0));
        statusDue("begin", 3, x -> x.begin(0));
        statusDue("seek", 3, x -> x.seek(0));
        statusDue("fewest", 3, x -> x.fewest(0, -1));
        statusDue("begun", 3, x -> x.begun(0, 0));
        statusDue("odds", 3, x -> x.odds(0, 3, 3, 3, 0));
        statusDue("gain", 3, x -> x.gain(3, 3, 3));
        statusDue("image and restore", 3, x -> {
            x.image(0);
            x.restore(0);
        });
        statusDue("kind", 3, x -> x.kind(0));
        statusDue("ask", 3, x -> x.ask(0, 0));
        statusDue("trace, count, fault", 3, x -> {
            x.trace(0);
            x.count(0);
            x.fault();
        });
    }

    private static void statusOfRefusals() {
        statusDue("row, BAD", 3, x -> x.row(8, 0, 1));
        statusDue("row, too long", 3, x -> x.row(0, 0, 41));
        statusDue("set, BAD", 3, x -> x.set(8, 0, 1));
        statusDue("copy, BAD", 3, x -> x.copy(0, 0, 8, 0, 1));
        statusDue("drop, BAD", 3, x -> x.drop(8));
        statusDue("hands, BAD", 3, x -> x.hands(8));
        statusDue("as, BAD", 3, x -> x.as(0, 6));
        statusDue("as of none, BAD", 3, x -> x.as(3, 0));
        statusDue("feed, FULL", 3, x -> {
            feed(x, " ".repeat(200));
            x.feed(0, 1);
        });
        FistTrains none = withoutHall();
        none.hands(0);
        due("status() behind hands, STATE", none.status(), 1);
        FistTrains x = withKindFound();
        x.set(0, 1, 7);
        x.as(0, 5);
        x.hands(0);
        due("status() behind hands of no HAND, BAD", x.status(), 3);
        x.as(0, 0);
        x.hands(0);
        due("status() behind hands of no HAND, BAD", x.status(), 0);
    }

    private static void statusOfFindings() {
        statusDue("set, NULL", 1, x -> x.set(2, 0, 1));
        statusDue("copy, NULL", 1, x -> x.copy(0, 0, 2, 0, 1));
        statusDue("drop, NULL", 1, x -> x.drop(2));
        statusDue("hands, NULL", 1, x -> x.hands(2));
        statusDue("set, PLACE", 2, x -> x.set(0, 3, 1));
        statusDue("copy, PLACE", 2, x -> x.copy(0, 0, 0, 3, 1));
        statusDue("hands, PLACE", 2, x -> x.hands(1));
        statusDue("as, KIND", 3, x -> x.as(1, 4));
        statusDue("row, SIZE", 4, x -> x.row(0, 0, -1));
        statusDue("copy, STORE", 5, x -> {
            x.row(2, 1, 3);
            x.copy(0, 0, 2, 0, 1);
        });
    }

    private static void statusOfNoFinding() {
        statusDue("row of none", 0, x -> x.row(2, 0, 0));
        statusDue("set to 0", 0, x -> x.set(0, 0, 0));
        statusDue("copy of none", 0, x -> x.copy(1, 0, 1, 0, 0));
        statusDue("drop of none", 0, x -> x.drop(1));
        statusDue("hands", 0, x -> x.hands(0));
        statusDue("as", 0, x -> x.as(2, 0));
    }

    private static void statusOfNoCall() {
        FistTrains x = new FistTrains();
        due("status()", x.status(), 0);
        read(x, "player boy 0;");
        x.hands(9);
        x.row(9, 0, 0);
        x.as(1, 0);
        x.round();
        due("status(), of refusals alone", x.status(), 0);
    }
}
