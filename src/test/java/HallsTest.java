import java.io.IOException;
import java.util.regex.Pattern;

/** The sentences of promises 6 to 14, each with a test of its own: the tape, halls, acts. */
public final class HallsTest extends Sentences {
    public static void main(String[] args) throws IOException {
        tapes();
        acts();
        manyHands();
        runAll(Pattern.compile("Promise ([6-9]|1[0-4])"));
    }

    // ---- promises 6 to 8

    private static void tapes() {
        section("Promise 6");
        sentence("The lowest n bytes of w (1 to 8)", HallsTest::lowestBytes);
        sentence("the highest of them first, come behind the tape:", HallsTest::highestFirst);
        sentence("how many it has.", HallsTest::feedAnswers);
        sentence("BAD: n;", HallsTest::feedOfNoNumber);
        sentence("FULL: none comes.", HallsTest::feedOfAFullTape);
        section("Promise 7");
        sentence("The tape, empty then, is read:", HallsTest::tapeIsEmptyThen);
        sentence("how many PLAYERS there are.", HallsTest::hallAnswers);
        sentence("-1000100 less the place of a FAULT:", HallsTest::placeOfAFault);
        sentence("all but the tape, and what fault() tells, stays.", HallsTest::faultLeavesAll);
        section("Promise 8");
        sentence("The number of the latest FAULT;", HallsTest::latestFault);
        sentence("0 before one.", HallsTest::noFaultYet);
    }

    private static long word(String text) {
        long word = 0;
        for (int i = 0; i < text.length(); i++) {
            word = word << 8 | text.charAt(i);
        }
        return word;
    }

    private static void lowestBytes() {
        String text = "player boy 2;";
        for (int n = 1; n <= 8; n++) {
            FistTrains x = new FistTrains();
            long above = n == 8 ? 0 : -1L << (8 * n);
            for (int at = 0; at < text.length(); at += n) {
                String part = text.substring(at, Math.min(at + n, text.length()));
                long word = word(part + " ".repeat(n - part.length()));
                due("feed of " + n, x.feed(above | word, n), at + n);
            }
            due("hall, fed by " + n, x.hall(), 1);
            due("hand, fed by " + n, x.player(0, 0), 2);
        }
        FistTrains x = new FistTrains();
        x.feed(-1L, 8);
        due("a byte of 255 is no blank", x.hall(), FAULTY);
    }

    private static void highestFirst() {
        FistTrains x = new FistTrains();
        due("feed of 'player b'", x.feed(0x706c617965722062L, 8), 8);
        due("feed of 'oy 1;'", x.feed(0x6f7920313bL, 5), 13);
        due("hall", x.hall(), 1);
        due("kind(0)", x.kind(0), 1);
        due("hand", x.player(0, 0), 1);
    }

    private static void feedAnswers() {
        FistTrains x = new FistTrains();
        int bytes = 0;
        for (int n = 1; n <= 8; n++) {
            bytes += n;
            due("feed(0, " + n + ")", x.feed(0, n), bytes);
            due("count(6)", x.count(6), bytes);
        }
        x.hall();
        due("feed(0, 3), behind hall()", x.feed(0, 3), 3);
    }

    private static void feedOfNoNumber() {
        due("feed(32, 1)", busy().feed(32, 1), 27);
        due("feed(32, 8)", busy().feed(32, 8), 34);
        for (int n : new int[] {0, 9, -1, 10, 200, 201, LEAST, MOST}) {
            refused("feed(0, " + n + ")", BAD, x -> x.feed(0, n));
        }
    }

    private static FistTrains withTape(int bytes) {
        FistTrains x = hallOf("boy1");
        feed(x, "player spy 0;" + " ".repeat(bytes - 13));
        return x;
    }

    private static void feedOfAFullTape() {
        for (int n = 1; n <= 8; n++) {
            int more = n;
            due("feed(32, " + n + ") of " + (200 - n), withTape(200 - n).feed(32, n), 200);
            refused(() -> withTape(201 - more), "feed(0, " + n + ") of " + (201 - n), FULL, x -> x.feed(0, more));
            refused(() -> withTape(200), "feed(0, " + n + ") of 200", FULL, x -> x.feed(0, more));
        }
        FistTrains x = withTape(199);
        due("feed(.., 2) of 199", x.feed(0, 2), FULL);
        due("feed(32, 1) of 199", x.feed(32, 1), 200);
        due("hall, of what came", x.hall(), 1);
        due("kind(0)", x.kind(0), 5);
        due("feed behind hall()", x.feed(0, 8), 8);
    }

    private static void tapeIsEmptyThen() {
        FistTrains x = hallOf("boy0 boy1");
        due("count(6)", x.count(6), 0);
        due("hall() of an empty tape", x.hall(), FAULTY);
        due("count(1)", x.count(1), 2);
        read(x, "player boy 3;player");
        due("count(6) behind a FAULT", x.count(6), 0);
        due("hall() of what comes then", read(x, "player spy 0;"), 1);
        due("hall() of a shorter text", read(x, "player"), FAULTY - 6);
    }

    private static void hallAnswers() {
        for (int players = 1; players <= 8; players++) {
            FistTrains x = new FistTrains();
            due("hall of " + players, read(x, "player mirror 1;".repeat(players)), players);
            due("count(1)", x.count(1), players);
        }
    }

    private static void placeOfAFault() {
        String[] texts = {"", "x", " x", "player x", "player boy x", "player boy 0x", "player boy 0;x"};
        int[] places = {0, 0, 1, 7, 11, 12, 13};
        for (int i = 0; i < texts.length; i++) {
            due("hall of '" + texts[i] + "'", read(new FistTrains(), texts[i]), -1000100 - places[i]);
        }
        due("hall of 200 bytes", read(new FistTrains(), " ".repeat(200)), -1000300);
        due("hall of 200 bytes", read(new FistTrains(), " ".repeat(199) + "x"), -1000299);
    }

    private static void faultLeavesAll() {
        String[] faulty = {"", "player", "player spy 3;", "player spy 1;player spy 1;player",
            "player boy 1;".repeat(9)};
        for (String text : faulty) {
            FistTrains x = withEmptyTape();
            due("hall of '" + text + "'", read(x, text) <= FAULTY, true);
            due("status()", x.status(), 2);
            FistTrains y = withEmptyTape();
            String fault = " fault ";
            due("all behind '" + text + "'", allOf(x).replaceAll(fault + "\\d", ""),
                allOf(y).replaceAll(fault + "\\d", ""));
            FistTrains z = withEmptyTape();
            read(z, text);
            due("what is foretold behind '" + text + "'", foretells(z), foretells(withEmptyTape()));
            FistTrains none = new FistTrains();
            read(none, text);
            due("left(0), no HALL behind '" + text + "'", none.left(0), STATE);
            due("longest(0, 0), no HALL behind '" + text + "'", none.longest(0, 0), STATE);
            due("hands(0), no HALL behind '" + text + "'", none.hands(0), STATE);
            due("image(0), no HALL behind '" + text + "'", none.image(0), STATE);
            due("round(), no HALL behind '" + text + "'", none.round(), STATE);
            due("kind(0), no HALL behind '" + text + "'", none.kind(0), BAD);
        }
    }

    private static void latestFault() {
        FistTrains x = new FistTrains();
        read(x, "player boy 3;");
        due("fault()", x.fault(), 2);
        read(x, "player boy 0;".repeat(9));
        due("fault()", x.fault(), 3);
        read(x, "player");
        due("fault()", x.fault(), 1);
        read(x, "player boy 7;");
        due("fault()", x.fault(), 2);
        read(x, "player boy 2;");
        due("fault(), none since", x.fault(), 2);
        due("fault(), asked again", x.fault(), 2);
    }

    private static void noFaultYet() {
        FistTrains x = new FistTrains();
        due("fault()", x.fault(), 0);
        read(x, "player boy 0;");
        x.feed(0, 9);
        x.set(0, 0, 0);
        x.bout(0, 0);
        due("fault()", x.fault(), 0);
    }

    // ---- promises 9 to 14

    private static void acts() {
        section("Promise 9");
        sentence("A BOUT: who has won.", HallsTest::boutAnswers);
        sentence("BAD: alike, too;", HallsTest::boutOfNoPair);
        sentence("STATE: one does not LEAD.", HallsTest::boutOfNoLeader);
        section("Promise 10");
        sentence("A ROUND: how many LEAD behind it.", HallsTest::roundAnswers);
        sentence("STATE: no HALL", HallsTest::roundOfNoHall);
        sentence("or one LEADS alone.", HallsTest::roundOfOne);
        section("Promise 11");
        sentence("A PLAYER has a HAND:", HallsTest::playerHasHand);
        sentence("which he had.", HallsTest::handAnswers);
        sentence("BAD.", HallsTest::handOfNoPlayer);
        sentence("HAND: which he had. BAD.", HallsTest::handOfNoHand);
        section("Promise 13");
        sentence("The latest ACT is undone:", HallsTest::latestActIsUndone);
        sentence("how many can be undone yet.", HallsTest::undoAnswers);
        sentence("STATE: none.", HallsTest::undoOfNone);
        section("Promise 14");
        sentence("Of a PLAYER: 0 HAND", HallsTest::handOfAPlayer);
        sentence("1 who LEADS the TRAIN in which he is", HallsTest::leaderOfAPlayer);
        sentence("2 how many are in that.", HallsTest::trainOfAPlayer);
        sentence("BAD.", HallsTest::noPlayer);
        sentence("in that. BAD.", HallsTest::playerOfNoWhat);
    }

    private static void boutAnswers() {
        FistTrains x = hallOf("steady0 steady1 steady1 boy2 boy2 steady0 spy0 steady2");
        due("bout(0, 1), the second by a throw", x.bout(0, 1), 1);
        due("bout(3, 2), the first by a throw", x.bout(3, 2), 3);
        due("bout(4, 3), by trains", x.bout(4, 3), 3);
        due("bout(7, 6), a spy", x.bout(7, 6), 6);
        due("bout(6, 5), a spy", x.bout(6, 5), 6);
        due("count(4)", x.count(4), 1 + 1 + 9 + 1 + 1);
        due("count(5)", x.count(5), 5);
        due("count(3)", x.count(3), 0);
        due("leaders", leaders(x), "11333666");
        due("bout(1, 0), of one train", x.bout(1, 0), STATE);
    }

    private static void boutOfNoPair() {
        for (int p = 0; p < 5; p++) {
            int alike = p;
            refused("bout(" + p + ", " + p + ")", BAD, x -> x.bout(alike, alike));
        }
        for (int p : NO_PLAYERS) {
            refused("bout(" + p + ", 0)", BAD, x -> x.bout(p, 0));
            refused("bout(0, " + p + ")", BAD, x -> x.bout(0, p));
            refused("bout(1, " + p + ")", BAD, x -> x.bout(1, p));
            refused("bout(" + p + ", " + p + ")", BAD, x -> x.bout(p, p));
        }
        refused(Sentences::withoutHall, "bout(0, 1)", BAD, x -> x.bout(0, 1));
    }

    private static void boutOfNoLeader() {
        due("bout(0, 3)", busy().bout(0, 3), 3);
        for (int p : new int[] {1, 2, 4}) {
            refused("bout(" + p + ", 0)", STATE, x -> x.bout(p, 0));
            refused("bout(3, " + p + ")", STATE, x -> x.bout(3, p));
        }
        refused("bout(1, 4)", STATE, x -> x.bout(1, 4));
    }

    private static void roundAnswers() {
        int[] behind = {1, 2, 2, 3, 3, 4, 4};
        for (int players = 2; players <= 8; players++) {
            FistTrains x = new FistTrains();
            read(x, "player boy 1;".repeat(players));
            due("round() of " + players, x.round(), behind[players - 2]);
            due("count(2)", x.count(2), behind[players - 2]);
            due("count(3)", x.count(3), 1);
            due("count(5)", x.count(5), 1);
        }
    }

    private static void roundOfNoHall() {
        refused(FistTrains::new, "round()", STATE, FistTrains::round);
        refused(Sentences::withoutHall, "round()", STATE, FistTrains::round);
    }

    private static void roundOfOne() {
        due("round() of two", busy().round(), 1);
        refused(Sentences::withOneLeader, "round()", STATE, FistTrains::round);
        refused(() -> hallOf("boy1"), "round() of one alone", STATE, FistTrains::round);
    }

    private static void playerHasHand() {
        FistTrains x = hallOf("boy0 steady1 spy2");
        for (int hand = 0; hand < 3; hand++) {
            for (int p = 0; p < 3; p++) {
                x.hand(p, hand);
                due("hand of " + p, x.player(p, 0), hand);
            }
        }
        x.hand(1, 0);
        due("hands", hands(x), "202");
        x.bout(0, 1);
        x.hand(0, 1);
        due("hand of one who does not lead", hands(x), "102");
        due("leaders", leaders(x), "112");
    }

    private static void handAnswers() {
        FistTrains x = hallOf("boy0 boy2");
        due("hand(0, 1)", x.hand(0, 1), 0);
        due("hand(0, 2)", x.hand(0, 2), 1);
        due("hand(0, 2)", x.hand(0, 2), 2);
        due("hand(1, 0)", x.hand(1, 0), 2);
        due("count(5)", x.count(5), 4);
    }

    private static void handOfNoPlayer() {
        for (int p : NO_PLAYERS) {
            refused("hand(" + p + ", 0)", BAD, x -> x.hand(p, 0));
        }
        refused(Sentences::withoutHall, "hand(0, 0)", BAD, x -> x.hand(0, 0));
    }

    private static void handOfNoHand() {
        for (int hand : NO_HANDS) {
            refused("hand(0, " + hand + ")", BAD, x -> x.hand(0, hand));
            refused("hand(4, " + hand + ")", BAD, x -> x.hand(4, hand));
        }
    }

    private static void latestActIsUndone() {
        FistTrains x = busy();
        String before = seen(x);
        x.hand(0, 1);
        x.undo();
        due("seen behind a hand, undone", seen(x), before);
        x.bout(0, 3);
        x.undo();
        due("seen behind a bout, undone", seen(x), before);
        x.round();
        x.undo();
        due("seen behind a round, undone", seen(x), before);
        x.hands(1);
        x.undo();
        due("seen behind hands, undone", seen(x), before);
        due("status stays", x.status(), 0);
        x.row(5, 0, 1);
        x.hand(0, 2);
        x.drop(5);
        x.image(1);
        x.undo();
        due("a ROW stays missing", x.drop(5), NULL);
        due("an IMAGE stays", x.restore(1), 1);
        due("hand of the IMAGE", x.player(0, 0), 2);
    }

    private static void undoAnswers() {
        FistTrains x = hallOf("boy0 boy1");
        for (int i = 0; i < 25; i++) {
            x.hand(0, i % 3);
        }
        for (int yet = 23; yet >= 0; yet--) {
            due("undo()", x.undo(), yet);
            due("count(5)", x.count(5), yet);
        }
        x.hand(0, 1);
        x.hand(0, 2);
        due("undo() of two", x.undo(), 1);
    }

    private static FistTrains allUndone() {
        FistTrains x = busy();
        x.undo();
        x.undo();
        x.undo();
        return x;
    }

    private static void undoOfNone() {
        refused(FistTrains::new, "undo()", STATE, FistTrains::undo);
        refused(Sentences::withoutHall, "undo()", STATE, FistTrains::undo);
        refused(HallsTest::allUndone, "undo()", STATE, FistTrains::undo);
        refused(() -> hallOf("boy1"), "undo()", STATE, FistTrains::undo);
        FistTrains x = withOneLeader();
        x.round();
        due("count(5), no more by a refused round", x.count(5), 4);
    }

    private static void handOfAPlayer() {
        FistTrains x = hallOf("boy2 steady1 teacher0 mirror2 spy1 boy0 boy1 boy2");
        int[] dues = {2, 1, 0, 2, 1, 0, 1, 2};
        for (int p = 0; p < 8; p++) {
            due("player(" + p + ", 0)", x.player(p, 0), dues[p]);
        }
        x.bout(2, 5);
        due("player(2, 0) behind a bout", x.player(2, 0), 0);
        due("player(5, 0) behind a bout", x.player(5, 0), 2);
    }

    private static void leaderOfAPlayer() {
        FistTrains x = busy();
        int[] dues = {0, 0, 0, 3, 3};
        for (int p = 0; p < 5; p++) {
            due("player(" + p + ", 1)", x.player(p, 1), dues[p]);
        }
    }

    private static void trainOfAPlayer() {
        FistTrains x = busy();
        int[] dues = {3, 3, 3, 2, 2};
        for (int p = 0; p < 5; p++) {
            due("player(" + p + ", 2)", x.player(p, 2), dues[p]);
        }
        x.round();
        due("player(1, 2), of all", x.player(1, 2), 5);
        due("player(0, 2), of one", hallOf("boy1").player(0, 2), 1);
    }

    private static void noPlayer() {
        for (int p : NO_PLAYERS) {
            for (int what = 0; what < 3; what++) {
                int told = what;
                refused("player(" + p + ", " + what + ")", BAD, x -> x.player(p, told));
            }
        }
        refused(Sentences::withoutHall, "player(0, 0)", BAD, x -> x.player(0, 0));
        due("player(7, 2) of eight", hallOf("boy0 boy0 boy0 boy0 boy0 boy0 boy0 boy0").player(7, 2), 1);
    }

    private static void playerOfNoWhat() {
        for (int what : new int[] {-1, 3, 4, LEAST, MOST}) {
            refused("player(0, " + what + ")", BAD, x -> x.player(0, what));
        }
    }

    // ---- promise 12

    private static void manyHands() {
        section("Promise 12");
        sentence("PLAYERS 0 on have as HANDS the first ITEMS of a ROW", HallsTest::playersHaveHands);
        sentence("(one ACT):", HallsTest::handsAreOneAct);
        sentence("how many had another one.", HallsTest::handsAnswer);
        sentence("BAD: ROW;", HallsTest::handsOfNoRow);
        sentence("STATE: no HALL", HallsTest::handsOfNoHall);
        sentence("(ahead of BAD);", HallsTest::handsOfNoHallAheadOfBad);
        sentence("NULL;", HallsTest::handsOfMissing);
        sentence("PLACE;", HallsTest::handsOfTooFew);
        sentence("then BAD: an ITEM that is no HAND.", HallsTest::handsOfNoHand);
        sentence("PLACE; then BAD:", HallsTest::placeAheadOfNoHand);
    }

    private static void playersHaveHands() {
        for (int lane = 0; lane < 3; lane++) {
            FistTrains x = hallOf("boy0 steady0 spy0");
            rowOf(x, 0, lane, 2, 1, 0);
            x.hands(0);
            due("hands", hands(x), "210");
            rowOf(x, 1, lane, 0, 2, 1, 99, -1);
            x.hands(1);
            due("hands, the first of more ITEMS", hands(x), "021");
        }
        FistTrains x = hallOf("boy0 boy0 boy0 boy0 boy0 boy0 boy0 boy0");
        rowOf(x, 7, 0, 0, 1, 2, 0, 1, 2, 0, 1);
        x.hands(7);
        due("hands of eight", hands(x), "01201201");
        FistTrains y = busy();
        y.hands(1);
        due("also of those who do not lead", hands(y), "21212");
        due("leaders", leaders(y), "00033");
    }

    private static void handsAreOneAct() {
        FistTrains x = busy();
        String before = hands(x);
        x.hands(1);
        due("count(5)", x.count(5), 4);
        due("count(4)", x.count(4), 2);
        due("count(3)", x.count(3), 1);
        due("undo()", x.undo(), 3);
        due("hands", hands(x), before);
    }

    private static void handsAnswer() {
        FistTrains x = hallOf("boy0 boy1 boy2 boy0");
        rowOf(x, 0, 0, 0, 1, 2, 0);
        due("hands(0), none", x.hands(0), 0);
        rowOf(x, 0, 0, 0, 1, 2, 1, 2, 2);
        due("hands(0), the last", x.hands(0), 1);
        rowOf(x, 0, 0, 1, 1, 0, 1);
        due("hands(0), two", x.hands(0), 2);
        rowOf(x, 0, 0, 2, 2, 2, 2);
        due("hands(0), all", x.hands(0), 4);
        x.bout(0, 1);
        rowOf(x, 0, 0, 2, 0, 2, 2);
        x.hands(0);
        rowOf(x, 0, 0, 1, 1, 1, 1);
        due("hands(0), also of those who do not lead", x.hands(0), 4);
    }

    private static void handsOfNoRow() {
        for (int row : NO_ROWS) {
            refused("hands(" + row + ")", BAD, x -> x.hands(row));
        }
    }

    private static void handsOfNoHall() {
        refused(Sentences::withoutHall, "hands(0)", STATE, x -> x.hands(0));
        refused(Sentences::withoutHall, "hands(3), missing", STATE, x -> x.hands(3));
        refused(FistTrains::new, "hands(0)", STATE, x -> x.hands(0));
    }

    private static void handsOfNoHallAheadOfBad() {
        for (int row : NO_ROWS) {
            refused(Sentences::withoutHall, "hands(" + row + ")", STATE, x -> x.hands(row));
        }
        FistTrains x = new FistTrains();
        rowOf(x, 0, 0, 9, 9, 9, 9, 9, 9, 9, 9);
        due("hands(0), no HANDS", x.hands(0), STATE);
    }

    private static void handsOfMissing() {
        for (int row = 3; row < 7; row++) {
            int missing = row;
            refused("hands(" + row + ")", NULL, x -> x.hands(missing));
        }
    }

    private static FistTrains withRowOf(int items) {
        FistTrains x = hallOf("boy1 boy1 boy1");
        x.row(2, 1, items);
        return x;
    }

    private static void handsOfTooFew() {
        refused(() -> withRowOf(0), "hands(2) of 0", PLACE, x -> x.hands(2));
        refused(() -> withRowOf(1), "hands(2) of 1", PLACE, x -> x.hands(2));
        refused(() -> withRowOf(2), "hands(2) of 2", PLACE, x -> x.hands(2));
        due("hands(2) of 3", withRowOf(3).hands(2), 3);
        due("hands(2) of 4", withRowOf(4).hands(2), 3);
        due("hands(2) of 40", withRowOf(40).hands(2), 3);
        FistTrains behind = withRowOf(2);
        behind.bout(0, 1);
        due("hands(2) of 2, of those who do not lead, too", behind.hands(2), PLACE);
    }

    private static FistTrains withItem(int i, int item) {
        FistTrains x = hallOf("boy1 boy1 boy1");
        rowOf(x, 2, 2, 2, 2, 2, 2);
        x.set(2, i, item);
        x.drop(6);
        return x;
    }

    private static void handsOfNoHand() {
        for (int item : NO_HANDS) {
            for (int i = 0; i < 3; i++) {
                int at = i;
                refused(() -> withItem(at, item), "hands(2), ITEM " + i + " is " + item, BAD, x -> x.hands(2));
            }
            due("hands(2), an ITEM behind them is " + item, withItem(3, item).hands(2), 3);
        }
        due("hands(2), ITEM 2 is 0", withItem(2, 0).hands(2), 3);
        FistTrains wrapped = hallOf("boy1");
        wrapped.row(0, 0, 1);
        wrapped.set(0, 0, 258);
        due("hands(0), a byte of 258 is 2", wrapped.hands(0), 1);
        wrapped.set(0, 0, 255);
        due("hands(0), a byte of 255 is -1", wrapped.hands(0), BAD);
    }

    private static void placeAheadOfNoHand() {
        FistTrains x = hallOf("boy1 boy1 boy1");
        rowOf(x, 0, 0, 3, -1);
        due("hands(0)", x.hands(0), PLACE);
        due("status()", x.status(), 2);
        rowOf(x, 0, 0, 3, -1, 0);
        due("hands(0)", x.hands(0), BAD);
    }
}
