import java.io.IOException;
import java.util.function.Consumer;
import java.util.regex.Pattern;

/** The sentences of promises 26 to 31, each with a test of its own: kinds, asks, counts, status. */
public final class AskedTest extends Sentences {
    public static void main(String[] args) throws IOException {
        kinds();
        counts();
        runAll(Pattern.compile("Promise (2[6-9]|3[01])"));
    }

    // ---- promises 26 to 29

    private static void kinds() {
        section("Promise 26");
        sentence("The KIND of a PLAYER, as told (1 to 5).", AskedTest::kindAsTold);
        sentence("BAD.", AskedTest::kindOfNoPlayer);
        section("Promise 27");
        sentence("A PLAYER is taken as one of a KIND (0 .. 5): the PLAYER's number.", AskedTest::takenAsKind);
        sentence("BAD;", AskedTest::asOfNoPlayer);
        sentence("(0 .. 5):", AskedTest::asOfNoKind);
        sentence("KIND: he is no such one.", AskedTest::asOfAnotherKind);
        section("Promise 28");
        sentence("An ASK (0, 1) of a PLAYER.", AskedTest::asks);
        sentence("BAD.", AskedTest::askOfNoPlayer);
        sentence("(0, 1)", AskedTest::askOfNoWhat);
        sentence("THE TRACE is empty ahead of it", AskedTest::traceIsEmptyAhead);
        sentence("(where that is refused it stays).", AskedTest::traceStays);
        section("Promise 29");
        sentence("Number i of THE TRACE;", AskedTest::numberOfTheTrace);
        sentence("NONE.", AskedTest::noNumberOfTheTrace);
    }

    private static void kindAsTold() {
        FistTrains x = hallOf("spy0 mirror0 teacher0 steady0 boy0 boy1 spy1 steady2");
        int[] dues = {5, 4, 3, 2, 1, 1, 5, 2};
        for (int p = 0; p < 8; p++) {
            due("kind(" + p + ")", x.kind(p), dues[p]);
        }
        x.as(0, 4);
        x.as(2, 1);
        x.round();
        due("kind(0), taken as another", x.kind(0), 5);
        due("kind(2), taken as another", x.kind(2), 3);
    }

    private static void kindOfNoPlayer() {
        for (int p : NO_PLAYERS) {
            refused("kind(" + p + ")", BAD, x -> x.kind(p));
        }
        refused(Sentences::withoutHall, "kind(0)", BAD, x -> x.kind(0));
    }

    private static final String KINDS_OF_BUSY = "2 1 4 5 3";

    /** Of a kind of player, the kinds that it is. */
    private static String kindsOf(int kind) {
        return new String[] {"0", "01", "012", "013", "04", "045"}[kind];
    }

    private static void takenAsKind() {
        String[] kinds = KINDS_OF_BUSY.split(" ");
        for (int p = 0; p < 5; p++) {
            for (char kind : kindsOf(Integer.parseInt(kinds[p])).toCharArray()) {
                FistTrains x = busy();
                due("as(" + p + ", " + kind + ")", x.as(p, kind - '0'), p);
                due("status()", x.status(), 0);
                due("all behind it", allOf(x), allOf(busy()));
            }
        }
    }

    private static void asOfNoPlayer() {
        for (int p : NO_PLAYERS) {
            refused("as(" + p + ", 0)", BAD, x -> x.as(p, 0));
        }
        refused(Sentences::withoutHall, "as(0, 0)", BAD, x -> x.as(0, 0));
    }

    private static void asOfNoKind() {
        due("as(3, 0)", busy().as(3, 0), 3);
        due("as(3, 5)", busy().as(3, 5), 3);
        for (int kind : new int[] {-1, 6, 7, LEAST, MOST}) {
            refused("as(0, " + kind + ")", BAD, x -> x.as(0, kind));
            refused("as(3, " + kind + ")", BAD, x -> x.as(3, kind));
        }
    }

    private static void asOfAnotherKind() {
        String[] kinds = KINDS_OF_BUSY.split(" ");
        for (int p = 0; p < 5; p++) {
            for (int kind = 0; kind <= 5; kind++) {
                if (kindsOf(Integer.parseInt(kinds[p])).indexOf('0' + kind) < 0) {
                    int told = p;
                    int none = kind;
                    refused("as(" + p + ", " + kind + ")", KIND, x -> x.as(told, none));
                }
            }
        }
    }

    private static void asks() {
        FistTrains x = busy();
        int[] sizes = {-3, 3 + 1 + 2, 3 - 100, 2 * (2 - 100), 2 + 4 + 1 - 1000};
        int[] marks = {0, 1 + 2, 2 - (3 - 100), 3 - 2 * (2 - 100), 4 + 1 - 1000};
        for (int p = 0; p < 5; p++) {
            due("ask(" + p + ", 0)", x.ask(p, 0), sizes[p]);
            due("ask(" + p + ", 1)", x.ask(p, 1), marks[p]);
        }
        due("status()", x.status(), 2);
        FistTrains eight = hallOf("mirror0 boy0 boy0 boy0 boy0 boy0 boy0 steady2");
        due("ask(7, 1), the last", eight.ask(7, 1), 18);
        due("ask(7, 0), the last", eight.ask(7, 0), -19);
    }

    private static void askOfNoPlayer() {
        for (int p : NO_PLAYERS) {
            refused("ask(" + p + ", 0)", BAD, x -> x.ask(p, 0));
            refused("ask(" + p + ", 1)", BAD, x -> x.ask(p, 1));
        }
        refused(Sentences::withoutHall, "ask(0, 0)", BAD, x -> x.ask(0, 0));
    }

    private static void askOfNoWhat() {
        for (int what : NO_PAIR_WHATS) {
            refused("ask(0, " + what + ")", BAD, x -> x.ask(0, what));
        }
    }

    private static void traceIsEmptyAhead() {
        FistTrains x = busy();
        due("trace", trace(x), "23 20 14 13 10");
        x.ask(2, 0);
        due("trace of a shorter one", trace(x), "13 10");
        x.ask(0, 0);
        due("trace of a longer one", trace(x), "12 11 10 24 21 20");
        x.ask(0, 0);
        due("trace of the same", trace(x), "12 11 10 24 21 20");
    }

    private static void traceStays() {
        FistTrains x = busy();
        x.ask(5, 0);
        x.ask(-1, 1);
        x.ask(0, 2);
        x.ask(0, -1);
        due("trace", trace(x), "23 20 14 13 10");
        FistTrains y = withoutHall();
        y.ask(0, 0);
        due("trace of none", trace(y), "");
    }

    private static void numberOfTheTrace() {
        FistTrains x = busy();
        x.ask(0, 0);
        int[] bodies = {12, 11, 10, 24, 21, 20};
        for (int i = 5; i >= 0; i--) {
            due("trace(" + i + ")", x.trace(i), bodies[i]);
        }
    }

    private static void noNumberOfTheTrace() {
        for (int i : new int[] {-1, 5, 6, 15, 16, 17, LEAST, MOST}) {
            foretold(Sentences::busy, "trace(" + i + ") of five", NONE, x -> x.trace(i));
            due("trace(" + i + ") of none", new FistTrains().trace(i), NONE);
        }
        due("trace(0), the first", busy().trace(0), 23);
        due("trace(4), the last", busy().trace(4), 10);
        due("trace(0) of none", new FistTrains().trace(0), NONE);
    }

    // ---- promises 30, 31

    private static void counts() {
        section("Promise 30");
        sentence("How many: 0 ROWS", AskedTest::countOfRows);
        sentence("1 PLAYERS, 2 who LEAD", AskedTest::countOfPlayers);
        sentence("2 who LEAD", AskedTest::countOfLeaders);
        sentence("3 ROUND", AskedTest::countOfRounds);
        sentence("4 TIME", AskedTest::countOfTime);
        sentence("5 ACTS that can be undone", AskedTest::countOfActs);
        sentence("6 bytes on the tape.", AskedTest::countOfBytes);
        sentence("BAD.", AskedTest::countOfNoWhat);
        section("Promise 31");
        sentence("Of the latest call with a ROW, or as()", AskedTest::statusOfCalls);
        sentence("that was not BAD, STATE, FULL:", AskedTest::statusOfRefusals);
        sentence("the number of its FINDING;", AskedTest::statusOfFindings);
        sentence("0: it had none", AskedTest::statusOfNoFinding);
        sentence("or there was none.", AskedTest::statusOfNoCall);
    }

    private static void countOfRows() {
        FistTrains x = new FistTrains();
        for (int row = 7; row >= 0; row--) {
            x.row(row, row % 3, row * 5);
            due("count(0)", x.count(0), 8 - row);
        }
        x.row(0, 2, 7);
        due("count(0), one in place", x.count(0), 8);
        x.drop(0);
        due("count(0)", x.count(0), 7);
    }

    private static void countOfPlayers() {
        FistTrains x = new FistTrains();
        for (int players = 0; players <= 8; players++) {
            if (players > 0) {
                read(x, "player boy 1;".repeat(players));
            }
            due("count(1)", x.count(1), players);
        }
        x.round();
        due("count(1), behind a round", x.count(1), 8);
    }

    private static void countOfLeaders() {
        FistTrains x = hallOf("boy1 boy1 boy1 boy1 boy1 boy1 boy1 boy1");
        due("count(2)", x.count(2), 8);
        x.bout(6, 7);
        due("count(2)", x.count(2), 7);
        x.round();
        due("count(2)", x.count(2), 4);
        x.round();
        x.round();
        due("count(2)", x.count(2), 1);
        due("count(2), no HALL", new FistTrains().count(2), 0);
    }

    private static void countOfRounds() {
        FistTrains x = hallOf("boy1 boy1 boy1 boy1 boy1 boy1");
        x.bout(4, 5);
        due("count(3)", x.count(3), 0);
        for (int round = 1; round <= 3; round++) {
            x.round();
            due("count(3)", x.count(3), round);
        }
        x.round();
        due("count(3), behind a refused one", x.count(3), 3);
        x.undo();
        due("count(3), undone", x.count(3), 2);
    }

    private static void countOfTime() {
        FistTrains x = hallOf("steady0 steady1 steady1 boy1");
        x.bout(0, 1);
        due("count(4)", x.count(4), 1);
        x.round();
        due("count(4)", x.count(4), 1 + 9);
        x.round();
        due("count(4)", x.count(4), 1 + 9 + 2);
        x.hand(0, 2);
        due("count(4), behind a hand", x.count(4), 12);
        x.undo();
        x.undo();
        due("count(4), undone", x.count(4), 10);
    }

    private static void countOfActs() {
        FistTrains x = hallOf("boy1 boy1");
        for (int acts = 1; acts <= 26; acts++) {
            x.hand(0, 1);
            due("count(5)", x.count(5), Math.min(acts, 24));
        }
        x.undo();
        due("count(5)", x.count(5), 23);
    }

    private static void countOfBytes() {
        FistTrains x = new FistTrains();
        for (int bytes = 8; bytes <= 200; bytes += 8) {
            x.feed(32, 8);
            due("count(6)", x.count(6), bytes);
        }
        x.feed(32, 1);
        due("count(6), full", x.count(6), 200);
        x.hall();
        due("count(6), read", x.count(6), 0);
    }

    private static void countOfNoWhat() {
        for (int what : new int[] {-1, 7, 8, LEAST, MOST}) {
            refused("count(" + what + ")", BAD, x -> x.count(what));
        }
    }

    /** A hall whose latest finding is KIND; row 0 has three items, row 1 none. */
    private static FistTrains withKindFound() {
        FistTrains x = hallOf("boy0 boy1 boy2");
        x.row(0, 0, 3);
        x.row(1, 0, 0);
        x.as(0, 5);
        return x;
    }

    private static void statusDue(String call, int status, Consumer<FistTrains> made) {
        FistTrains x = withKindFound();
        made.accept(x);
        due("status() behind " + call, x.status(), status);
        due("status(), asked again", x.status(), status);
    }

    private static void statusOfCalls() {
        statusDue("row", 0, x -> x.row(2, 0, 1));
        statusDue("set", 0, x -> x.set(0, 0, 1));
        statusDue("copy", 0, x -> x.copy(0, 0, 0, 1, 1));
        statusDue("drop", 0, x -> x.drop(0));
        statusDue("hands", 0, x -> x.hands(0));
        statusDue("as", 0, x -> x.as(0, 1));
        statusDue("feed", 3, x -> x.feed(0, 1));
        statusDue("hall", 3, x -> read(x, "player boy 0;"));
        statusDue("a faulty hall", 3, FistTrains::hall);
        statusDue("bout", 3, x -> x.bout(0, 1));
        statusDue("round", 3, FistTrains::round);
        statusDue("hand", 3, x -> x.hand(0, 1));
        statusDue("undo", 3, x -> {
            x.hand(0, 1);
            x.undo();
        });
        statusDue("player", 3, x -> x.player(0, 0));
        statusDue("beats", 3, x -> x.beats(0, 1, 0));
        statusDue("left", 3, x -> x.left(0));
        statusDue("longest", 3, x -> x.longest(0, 0));
        statusDue("begin", 3, x -> x.begin(0));
        statusDue("seek", 3, x -> x.seek(0));
        statusDue("fewest", 3, x -> x.fewest(0, -1));
        statusDue("begun", 3, x -> x.begun(0, 0));
        statusDue("odds", 3, x -> x.odds(0, 3, 3, 3, 0));
        statusDue("gain", 3, x -> x.gain(3, 3, 3));
        statusDue("image and restore", 3, x -> {
            x.image(0);
            x.restore(0);
        });
        statusDue("kind", 3, x -> x.kind(0));
        statusDue("ask", 3, x -> x.ask(0, 0));
        statusDue("trace, count, fault", 3, x -> {
            x.trace(0);
            x.count(0);
            x.fault();
        });
    }

    private static void statusOfRefusals() {
        statusDue("row, BAD", 3, x -> x.row(8, 0, 1));
        statusDue("row, too long", 3, x -> x.row(0, 0, 41));
        statusDue("set, BAD", 3, x -> x.set(8, 0, 1));
        statusDue("copy, BAD", 3, x -> x.copy(0, 0, 8, 0, 1));
        statusDue("drop, BAD", 3, x -> x.drop(8));
        statusDue("hands, BAD", 3, x -> x.hands(8));
        statusDue("as, BAD", 3, x -> x.as(0, 6));
        statusDue("as of none, BAD", 3, x -> x.as(3, 0));
        statusDue("feed, FULL", 3, x -> {
            feed(x, " ".repeat(200));
            x.feed(0, 1);
        });
        FistTrains none = withoutHall();
        none.hands(0);
        due("status() behind hands, STATE", none.status(), 1);
        FistTrains x = withKindFound();
        x.set(0, 1, 7);
        x.as(0, 5);
        x.hands(0);
        due("status() behind hands of no HAND, BAD", x.status(), 3);
        x.as(0, 0);
        x.hands(0);
        due("status() behind hands of no HAND, BAD", x.status(), 0);
    }

    private static void statusOfFindings() {
        statusDue("set, NULL", 1, x -> x.set(2, 0, 1));
        statusDue("copy, NULL", 1, x -> x.copy(0, 0, 2, 0, 1));
        statusDue("drop, NULL", 1, x -> x.drop(2));
        statusDue("hands, NULL", 1, x -> x.hands(2));
        statusDue("set, PLACE", 2, x -> x.set(0, 3, 1));
        statusDue("copy, PLACE", 2, x -> x.copy(0, 0, 0, 3, 1));
        statusDue("hands, PLACE", 2, x -> x.hands(1));
        statusDue("as, KIND", 3, x -> x.as(1, 4));
        statusDue("row, SIZE", 4, x -> x.row(0, 0, -1));
        statusDue("copy, STORE", 5, x -> {
            x.row(2, 1, 3);
            x.copy(0, 0, 2, 0, 1);
        });
    }

    private static void statusOfNoFinding() {
        statusDue("row of none", 0, x -> x.row(2, 0, 0));
        statusDue("set to 0", 0, x -> x.set(0, 0, 0));
        statusDue("copy of none", 0, x -> x.copy(1, 0, 1, 0, 0));
        statusDue("drop of none", 0, x -> x.drop(1));
        statusDue("hands", 0, x -> x.hands(0));
        statusDue("as", 0, x -> x.as(2, 0));
    }

    private static void statusOfNoCall() {
        FistTrains x = new FistTrains();
        due("status()", x.status(), 0);
        read(x, "player boy 0;");
        x.hands(9);
        x.row(9, 0, 0);
        x.as(1, 0);
        x.round();
        due("status(), of refusals alone", x.status(), 0);
    }
}
