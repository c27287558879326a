import java.io.IOException;
import java.util.regex.Pattern;

/** The sentences of 'Terms', each with a test of its own. */
public final class TermsTest extends Sentences {
    public static void main(String[] args) throws IOException {
        section("Terms");
        refusals();
        rows();
        texts();
        faults();
        bouts();
        acts();
        foretelling();
        fewestAndOdds();
        kindsAndAsks();
        runAll(Pattern.compile("Terms"));
    }

    // ---- numbers, refusals

    private static void refusals() {
        sentence("Numbers go from 0 on.", TermsTest::numbersFromZero);
        sentence("All that is divided is cut towards 0, but fractions, told as two numbers in lowest terms",
            TermsTest::lowestTerms);
        sentence("(0 is 0 by 1)", TermsTest::zeroByOne);
        sentence("Sets are bits.", TermsTest::setsAreBits);
        sentence("Refusals are answers, the first of these that fits, but as told: BAD", TermsTest::badComesFirst);
        sentence("but as told:", TermsTest::stateAheadOfBad);
        sentence("BAD (a number is not as told;", TermsTest::numberNotAsTold);
        sentence("there is no such thing)", TermsTest::noSuchThing);
        sentence("STATE (as told), FULL (as told), then FINDINGS", TermsTest::stateAndFullAheadOfFindings);
        sentence("of several the first in time:", TermsTest::firstFindingInTime);
        sentence("-1000010 less 1 NULL (a ROW that is missing)", TermsTest::nullIsAMissingRow);
        sentence("2 PLACE (no such place of a ROW)", TermsTest::placeOfARow);
        sentence("3 KIND (a PLAYER that is not that)", TermsTest::kindOfAPlayer);
        sentence("4 SIZE (fewer than none)", TermsTest::sizeFewerThanNone);
        sentence("5 STORE (ROWS of two LANES)", TermsTest::storeOfTwoLanes);
        sentence("What is refused, or found, changes nothing but status().", TermsTest::refusedChangesNothing);
        sentence("nothing but status()", TermsTest::foundChangesStatus);
    }

    private static void numbersFromZero() {
        FistTrains x = hallOf("steady1 steady0");
        due("row(0, 0, 1)", x.row(0, 0, 1), 1);
        due("set(0, 0, 5)", x.set(0, 0, 5), 5);
        due("set(0, 1, 5), the second of one item", x.set(0, 1, 5), PLACE);
        due("kind(0)", x.kind(0), 2);
        due("kind(2), the third of two", x.kind(2), BAD);
        due("image(0)", x.image(0), 1);
        due("bout(0, 1)", x.bout(0, 1), 0);
        due("ask(0, 1)", x.ask(0, 1), 2);
        due("trace(0)", x.trace(0), 24);
    }

    private static void lowestTerms() {
        FistTrains x = new FistTrains();
        for (int a = 0; a <= 9; a++) {
            for (int b = 0; b <= 9 - a; b++) {
                int c = 9 - a - b;
                int above = x.odds(0, a, b, c, 0);
                int below = x.odds(0, a, b, c, 1);
                String odds = "odds(0, " + a + ", " + b + ", " + c + ", ..)";
                if (a < 9) {
                    due(odds + " as a fraction", above * (b + c), below * c);
                    for (int divisor = 2; divisor <= 9; divisor++) {
                        due(odds + " by " + divisor, above % divisor == 0 && below % divisor == 0, false);
                    }
                }
            }
        }
        due("odds(0, 0, 0, 9, 0), 9 by 9", x.odds(0, 0, 0, 9, 0), 1);
        due("odds(0, 0, 0, 9, 1), 9 by 9", x.odds(0, 0, 0, 9, 1), 1);
        due("odds(0, 0, 3, 6, 0), 6 by 9", x.odds(0, 0, 3, 6, 0), 2);
        due("odds(0, 0, 3, 6, 1), 6 by 9", x.odds(0, 0, 3, 6, 1), 3);
        due("odds(0, 1, 4, 4, 0), 4 by 8", x.odds(0, 1, 4, 4, 0), 1);
        due("odds(0, 1, 4, 4, 1), 4 by 8", x.odds(0, 1, 4, 4, 1), 2);
        due("odds(0, 0, 4, 5, 1), 5 by 9", x.odds(0, 0, 4, 5, 1), 9);
    }

    private static void zeroByOne() {
        FistTrains x = new FistTrains();
        for (int b = 1; b <= 9; b++) {
            due("odds(0, .., " + b + ", 0, 0)", x.odds(0, 9 - b, b, 0, 0), 0);
            due("odds(0, .., " + b + ", 0, 1)", x.odds(0, 9 - b, b, 0, 1), 1);
        }
    }

    private static void setsAreBits() {
        due("seek, players 0 to 6", hallOf("boy0 boy1 boy2 boy0 boy1 boy2 boy0 spy0").seek(7), 127);
        due("seek, players 1 to 7", hallOf("spy0 boy0 boy1 boy2 boy0 boy1 boy2 boy0").seek(0), 254);
        due("begun, stone alone", hallOf("steady2 steady2").begun(0, 0), 1 + 4);
        due("begun, paper alone", hallOf("steady0 steady2").begun(0, 1), 2);
        due("no bit", hallOf("steady0 spy0").seek(0), 0);
    }

    private static void badComesFirst() {
        FistTrains x = busy();
        due("bout(1, 5), 1 does not lead", x.bout(1, 5), BAD);
        due("bout(1, 1), 1 does not lead", x.bout(1, 1), BAD);
        due("beats(1, 0, 2), 1 does not lead", x.beats(1, 0, 2), BAD);
        due("begin(5)", x.begin(5), BAD);
        due("seek(5)", x.seek(5), BAD);
        due("fewest(1, 5), 1 does not lead", x.fewest(1, 5), BAD);
        due("fewest(1, -2), 1 does not lead", x.fewest(1, -2), BAD);
        due("begun(1, 5), 1 does not lead", x.begun(1, 5), BAD);
        due("begun(5, 1), 1 does not lead", x.begun(5, 1), BAD);
        due("restore(2), of which none was kept", x.restore(2), BAD);
        due("row(8, 0, -1), fewer than none, too", x.row(8, 0, -1), BAD);
        due("row(0, 3, -1), fewer than none, too", x.row(0, 3, -1), BAD);
        due("copy(3, 0, 8, 0, 1), missing, too", x.copy(3, 0, 8, 0, 1), BAD);
        due("copy(8, 0, 3, 0, 1), missing, too", x.copy(8, 0, 3, 0, 1), BAD);
        due("as(0, 6), he is none", x.as(0, 6), BAD);
        due("odds(0, 9, 0, 0, 2), ties alone", x.odds(0, 9, 0, 0, 2), BAD);
        due("image(2), no HALL", new FistTrains().image(2), BAD);
        feed(x, " ".repeat(200 - x.count(6)));
        due("feed(0, 9), a full tape", x.feed(0, 9), BAD);
        due("feed(0, 0), a full tape", x.feed(0, 0), BAD);
    }

    private static void stateAheadOfBad() {
        FistTrains x = withoutHall();
        due("hands(8)", x.hands(8), STATE);
        due("left(3)", x.left(3), STATE);
        due("longest(10, 0)", x.longest(10, 0), STATE);
        due("longest(0, 2)", x.longest(0, 2), STATE);
    }

    private static void numberNotAsTold() {
        FistTrains x = busy();
        due("row(0, 3, 1)", x.row(0, 3, 1), BAD);
        due("row(0, 0, 41)", x.row(0, 0, 41), BAD);
        due("feed(0, 9)", x.feed(0, 9), BAD);
        due("hand(0, 3)", x.hand(0, 3), BAD);
        due("player(0, 3)", x.player(0, 3), BAD);
        due("beats(0, 3, 2)", x.beats(0, 3, 2), BAD);
        due("left(3)", x.left(3), BAD);
        due("longest(10, 0)", x.longest(10, 0), BAD);
        due("longest(0, 2)", x.longest(0, 2), BAD);
        due("fewest(0, -2)", x.fewest(0, -2), BAD);
        due("odds(3, 3, 3, 3, 0)", x.odds(3, 3, 3, 3, 0), BAD);
        due("odds(0, 3, 3, 3, 2)", x.odds(0, 3, 3, 3, 2), BAD);
        due("gain(3, 3, 4)", x.gain(3, 3, 4), BAD);
        due("as(0, 6)", x.as(0, 6), BAD);
        due("ask(0, 2)", x.ask(0, 2), BAD);
        due("count(7)", x.count(7), BAD);
    }

    private static void noSuchThing() {
        FistTrains none = withoutHall();
        FistTrains two = hallOf("boy0 boy1");
        for (int p : new int[] {0, 2}) {
            FistTrains x = p == 0 ? none : two;
            due("bout(" + p + ", 1)", x.bout(p, 1), BAD);
            due("bout(1, " + p + ")", x.bout(1, p), BAD);
            due("hand(" + p + ", 0)", x.hand(p, 0), BAD);
            due("player(" + p + ", 0)", x.player(p, 0), BAD);
            due("beats(" + p + ", 1, 0)", x.beats(p, 1, 0), BAD);
            due("beats(1, " + p + ", 0)", x.beats(1, p, 0), BAD);
            due("begin(" + p + ")", x.begin(p), BAD);
            due("seek(" + p + ")", x.seek(p), BAD);
            due("fewest(" + p + ", -1)", x.fewest(p, -1), BAD);
            due("fewest(0, " + p + ")", x.fewest(0, p), BAD);
            due("begun(" + p + ", 0)", x.begun(p, 0), BAD);
            due("begun(0, " + p + ")", x.begun(0, p), BAD);
            due("kind(" + p + ")", x.kind(p), BAD);
            due("as(" + p + ", 0)", x.as(p, 0), BAD);
            due("ask(" + p + ", 0)", x.ask(p, 0), BAD);
        }
        due("no such ROW", two.drop(8), BAD);
        due("no such IMAGE", two.restore(2), BAD);
    }

    private static void stateAndFullAheadOfFindings() {
        FistTrains x = withoutHall();
        due("hands(5), no HALL and missing", x.hands(5), STATE);
        due("hands(0), no HALL and too short", x.hands(0), STATE);
        due("status, none of them a finding of theirs", x.status(), 1);
        feed(x, " ".repeat(200 - x.count(6)));
        due("feed(0, 1), full", x.feed(0, 1), FULL);
        due("status, no finding", x.status(), 1);
    }

    private static void firstFindingInTime() {
        FistTrains x = busy();
        due("set(3, -1, 0): missing, then no place", x.set(3, -1, 0), NULL);
        due("copy(0, 9, 3, 0, 1): missing, then no place", x.copy(0, 9, 3, 0, 1), NULL);
        due("copy(0, 0, 1, 0, -1): two lanes, then no place", x.copy(0, 0, 1, 0, -1), STORE);
        due("copy(0, 9, 1, 0, 1): two lanes, then no place", x.copy(0, 9, 1, 0, 1), STORE);
        rowOf(x, 4, 2, 3, 3, 3, 3);
        due("hands(4): too short, then no hands", x.hands(4), PLACE);
    }

    private static void nullIsAMissingRow() {
        FistTrains x = busy();
        due("set", x.set(3, 0, 0), -1000011);
        due("copy from", x.copy(3, 0, 0, 0, 1), -1000011);
        due("copy to", x.copy(0, 0, 3, 0, 1), -1000011);
        due("drop", x.drop(3), -1000011);
        due("hands", x.hands(3), -1000011);
        due("status", x.status(), 1);
        due("an empty ROW is not missing", x.copy(7, 0, 7, 0, 0), 0);
    }

    private static void placeOfARow() {
        FistTrains x = busy();
        due("set", x.set(0, 5, 0), -1000012);
        due("status", x.status(), 2);
        due("set ahead", x.set(0, -1, 0), -1000012);
        due("set in none", x.set(7, 0, 0), -1000012);
        due("copy", x.copy(0, 5, 0, 0, 1), -1000012);
        x.drop(3);
        due("hands", x.hands(7), -1000012);
        due("status", x.status(), 2);
    }

    private static void kindOfAPlayer() {
        FistTrains x = busy();
        due("as(0, 5)", x.as(0, 5), -1000013);
        due("status", x.status(), 3);
    }

    private static void sizeFewerThanNone() {
        FistTrains x = busy();
        due("row(0, 0, -1)", x.row(0, 0, -1), -1000014);
        due("status", x.status(), 4);
        due("row(0, 0, LEAST)", x.row(0, 0, LEAST), -1000014);
        due("none is not fewer", x.row(0, 0, 0), 0);
    }

    private static void storeOfTwoLanes() {
        FistTrains x = busy();
        for (int a = 0; a < 3; a++) {
            for (int b = 0; b < 3; b++) {
                due("copy(" + a + ", 0, " + b + ", 0, 0)", x.copy(a, 0, b, 0, 0), a == b ? 0 : -1000015);
                due("status", x.status(), a == b ? 0 : 5);
            }
        }
    }

    private static void refusedChangesNothing() {
        refused("row(8, 0, 1)", BAD, x -> x.row(8, 0, 1));
        refused("row(0, 0, -1)", SIZE, x -> x.row(0, 0, -1));
        refused("set(0, 5, 2)", PLACE, x -> x.set(0, 5, 2));
        refused("copy(0, 0, 0, 4, 2)", PLACE, x -> x.copy(0, 0, 0, 4, 2));
        refused("copy(0, 0, 1, 0, 5)", STORE, x -> x.copy(0, 0, 1, 0, 5));
        refused("drop(3)", NULL, x -> x.drop(3));
        refused("feed(1, 9)", BAD, x -> x.feed(1, 9));
        refused("bout(0, 1)", STATE, x -> x.bout(0, 1));
        refused("hand(0, 3)", BAD, x -> x.hand(0, 3));
        refused("hands(3)", NULL, x -> x.hands(3));
        refused("hands(7)", PLACE, x -> x.hands(7));
        refused("restore(1)", STATE, x -> x.restore(1));
        refused("as(0, 5)", KIND, x -> x.as(0, 5));
        refused("ask(0, 2)", BAD, x -> x.ask(0, 2));
        refused(TermsTest::withoutHall, "round()", STATE, FistTrains::round);
        refused(TermsTest::withoutHall, "undo()", STATE, FistTrains::undo);
        refused(TermsTest::withoutHall, "image(0)", STATE, x -> x.image(0));
    }

    private static void foundChangesStatus() {
        FistTrains x = busy();
        due("status", x.status(), 2);
        x.as(0, 5);
        due("status behind KIND", x.status(), 3);
        x.hands(3);
        due("status behind NULL", x.status(), 1);
        x.drop(9);
        x.bout(0, 1);
        due("status behind BAD and STATE", x.status(), 1);
    }

    // ---- rows

    private static void rows() {
        sentence("ROWS 0 .. 7 are missing (at first)", TermsTest::rowsAreMissing);
        sentence("or have a LANE (0 bytes, 1 shorts, 2 ints)", TermsTest::lanes);
        sentence("and 0 to 40 ITEMS", TermsTest::itemsOfRows);
        sentence("0 at first.", TermsTest::itemsAreZero);
    }

    private static void rowsAreMissing() {
        for (int row = 0; row < 8; row++) {
            FistTrains x = hallOf("boy0");
            due("hands(" + row + ")", x.hands(row), NULL);
            due("set(" + row + ", 0, 0)", x.set(row, 0, 0), NULL);
            due("copy(" + row + ", ..)", x.copy(row, 0, row, 0, 0), NULL);
            due("drop(" + row + ")", x.drop(row), NULL);
            due("count(0)", x.count(0), 0);
            due("row(" + row + ", 0, 1)", x.row(row, 0, 1), 1);
            due("count(0)", x.count(0), 1);
        }
        due("drop(8), no ROW", new FistTrains().drop(8), BAD);
        due("drop(-1), no ROW", new FistTrains().drop(-1), BAD);
    }

    private static void lanes() {
        FistTrains x = new FistTrains();
        x.row(0, 0, 1);
        x.row(1, 1, 1);
        x.row(2, 2, 1);
        due("the most of bytes", x.set(0, 0, 127), 127);
        due("one more", x.set(0, 0, 128), -128);
        due("the most of shorts", x.set(1, 0, 32767), 32767);
        due("one more", x.set(1, 0, 32768), -32768);
        due("the most of ints", x.set(2, 0, MOST), MOST);
        due("the least of ints", x.set(2, 0, LEAST), LEAST);
        due("no LANE", x.row(3, 3, 1), BAD);
        due("no LANE", x.row(3, -1, 1), BAD);
    }

    private static void itemsOfRows() {
        FistTrains x = new FistTrains();
        for (int lane = 0; lane < 3; lane++) {
            due("row(0, lane, 0)", x.row(0, lane, 0), 0);
            due("the first of none", x.set(0, 0, 1), PLACE);
            due("row(7, lane, 40)", x.row(7, lane, 40), 40);
            due("the 40th", x.set(7, 39, 1), 1);
            due("the 41st", x.set(7, 40, 1), PLACE);
            due("row(7, lane, 41)", x.row(7, lane, 41), BAD);
        }
    }

    /** Items are seen as hands alone: all forty of a row come to the first eight, eight by eight. */
    private static void itemsAreZero() {
        for (int lane = 0; lane < 3; lane++) {
            FistTrains x = hallOf("boy1 boy1 boy1 boy1 boy1 boy1 boy1 boy1");
            x.row(3, lane, 40);
            due("hands of a new ROW", x.hands(3), 8);
            x.undo();
            for (int i = 0; i < 40; i++) {
                x.set(3, i, 2);
            }
            x.row(3, lane, 40);
            x.row(4, lane, 8);
            for (int from = 0; from < 40; from += 8) {
                x.copy(3, from, 4, 0, 8);
                due("items from " + from + " on, another than paper", x.hands(4), 8);
                due("hands", hands(x), "00000000");
                x.undo();
            }
        }
    }

    // ---- texts

    private static void texts() {
        sentence("TEXTS: THE TAPE has at most 200 bytes;", TermsTest::tapeHasRoom);
        sentence("TOKENS: NAMES (letters a to z)", TermsTest::names);
        sentence("NUMBERS (figures, 3 at most)", TermsTest::numbers);
        sentence("SIGNS ;", TermsTest::signs);
        sentence("bytes 32 and 10", TermsTest::blanks);
        sentence("ahead of, between, behind these, as many as wanted", TermsTest::manyBlanks);
        sentence("(none is needed where one ends without)", TermsTest::noBlanks);
        sentence("hall: player { player }.", TermsTest::onePlayerOrMore);
        sentence("player: 'player' SORT HAND ';'", TermsTest::playerInOrder);
        sentence("(SORT: 'boy' | 'steady' | 'teacher' | 'mirror' | 'spy';", TermsTest::sorts);
        sentence("0 to 2;", TermsTest::handsOfTexts);
        sentence("PLAYERS 0 .. 7, 8 at most).", TermsTest::eightPlayers);
        sentence("A HALL that is read stands in place of the one before", TermsTest::hallInPlace);
        sentence("(none at first):", TermsTest::noHallAtFirst);
        sentence("each LEADS a TRAIN of himself alone;", TermsTest::eachLeads);
        sentence("ROUND 0, TIME 0;", TermsTest::roundAndTime);
        sentence("no ACT can be undone;", TermsTest::noActs);
        sentence("IMAGES and ROWS stay.", TermsTest::imagesAndRowsStay);
    }

    private static final String TEXT = "player boy 0;";

    private static void reads(String text, int players) {
        FistTrains x = new FistTrains();
        due("hall of '" + text + "'", read(x, text), players);
        due("fault of '" + text + "'", x.fault(), 0);
    }

    private static void faultDue(String text, int number, int place) {
        FistTrains x = new FistTrains();
        due("hall of '" + text + "'", read(x, text), FAULTY - place);
        due("fault of '" + text + "'", x.fault(), number);
    }

    private static void tapeHasRoom() {
        FistTrains x = new FistTrains();
        for (int bytes = 8; bytes <= 192; bytes += 8) {
            due("feed", x.feed(0, 8), bytes);
        }
        due("feed, 199", x.feed(0, 7), 199);
        due("feed, 201", x.feed(0, 2), FULL);
        due("feed, 200", x.feed(0, 1), 200);
        due("feed, 201", x.feed(0, 1), FULL);
        due("feed, 208", x.feed(0, 8), FULL);
        due("count(6)", x.count(6), 200);
        FistTrains y = new FistTrains();
        feed(y, " ".repeat(200 - TEXT.length()) + TEXT);
        due("all 200 are read", y.hall(), 1);
        FistTrains z = new FistTrains();
        feed(z, TEXT + " ".repeat(199 - TEXT.length()) + "x");
        due("the 200th is read", z.hall(), FAULTY - 199);
    }

    private static void names() {
        faultDue("player`boy 0;", 1, 6);
        faultDue("player{boy 0;", 1, 6);
        faultDue("Player boy 0;", 1, 0);
        faultDue("PLAYER boy 0;", 1, 0);
        faultDue("player Boy 0;", 1, 7);
        faultDue("playerZ boy 0;", 1, 6);
        faultDue("playera boy 0;", 1, 0);
        faultDue("playerz boy 0;", 1, 0);
        faultDue("player boyz 0;", 1, 7);
        faultDue("player_boy 0;", 1, 6);
        faultDue("player " + (char) 225 + "boy 0;", 1, 7);
        faultDue("player boyplayerboyplayer 0;", 1, 7);
    }

    private static void numbers() {
        reads("player boy 2;", 1);
        reads("player boy 02;", 1);
        reads("player boy 002;", 1);
        faultDue("player boy 0002;", 1, 11);
        faultDue("player boy 0000;", 1, 11);
        faultDue("player boy /;", 1, 11);
        faultDue("player boy :;", 1, 11);
        faultDue("player boy 2/;", 1, 12);
        faultDue("player boy 2:;", 1, 12);
        faultDue("player boy 9;", 2, 11);
        faultDue("player boy 999;", 2, 11);
    }

    private static void signs() {
        for (int sign = 0; sign < 256; sign++) {
            boolean ends = sign == ';' || sign == 32 || sign == 10;
            String text = "player boy 0" + (char) sign;
            if (sign == ';') {
                reads(text, 1);
            } else if (sign >= '0' && sign <= '2') {
                reads(text + ";", 1);
            } else if (sign > '2' && sign <= '9') {
                faultDue(text + ";", 2, 11);
            } else {
                faultDue(text + "!", 1, ends ? 13 : 12);
            }
        }
    }

    private static void blanks() {
        reads(" player\nboy 0\n; ", 1);
        for (int blank = 0; blank < 48; blank++) {
            String text = "player" + (char) blank + "boy 0;";
            if (blank == 32 || blank == 10) {
                reads(text, 1);
            } else {
                faultDue(text, 1, 6);
            }
        }
        faultDue("player" + (char) 160 + "boy 0;", 1, 6);
        faultDue("player" + (char) 133 + "boy 0;", 1, 6);
        faultDue((char) 9 + TEXT, 1, 0);
        faultDue(TEXT + (char) 13, 1, 13);
    }

    private static void manyBlanks() {
        String many = " \n\n  \n ".repeat(4);
        reads(many + TEXT, 1);
        reads("player" + many + "boy 0;", 1);
        reads("player boy" + many + "0;", 1);
        reads("player boy 0" + many + ";", 1);
        reads("player boy 0;" + many + "player spy 2;", 2);
        reads(TEXT + many, 1);
        reads("\n" + TEXT, 1);
        reads(TEXT + "\n", 1);
    }

    private static void noBlanks() {
        reads("player boy0;player spy2;player mirror1;", 3);
        faultDue("playerboy0;", 1, 0);
        faultDue("player boy0player spy2;", 1, 11);
        faultDue("0;", 1, 0);
    }

    private static void onePlayerOrMore() {
        faultDue("", 1, 0);
        faultDue(" \n ", 1, 3);
        reads(TEXT, 1);
        reads(TEXT + TEXT, 2);
        faultDue(TEXT + "x", 1, 13);
        faultDue(TEXT + ";", 1, 13);
        faultDue(TEXT + " 0", 1, 14);
        faultDue(TEXT + "boy 0;", 1, 13);
    }

    private static void playerInOrder() {
        faultDue("boy 0;", 1, 0);
        faultDue("player 0;", 1, 7);
        faultDue("player boy;", 1, 10);
        faultDue("player boy 0", 1, 12);
        faultDue("player 0 boy;", 1, 7);
        faultDue("player boy ; 0", 1, 11);
        faultDue("; player boy 0", 1, 0);
        faultDue("player player boy 0;", 1, 7);
        faultDue("player boy boy 0;", 1, 11);
        faultDue("player boy 0 0;", 1, 13);
        faultDue("player boy 0 ;;", 1, 14);
        for (String other : almost("player")) {
            faultDue(other + " boy 0;", 1, 0);
        }
    }

    private static void sorts() {
        for (int kind = 1; kind <= 5; kind++) {
            for (int hand = 0; hand < 3; hand++) {
                FistTrains x = new FistTrains();
                due("hall", read(x, "player " + SORTS[kind] + " " + hand + ";"), 1);
                due("kind of " + SORTS[kind], x.kind(0), kind);
                due("hand of " + SORTS[kind], x.player(0, 0), hand);
            }
            faultDue("player " + SORTS[kind] + "s 0;", 1, 7);
            faultDue("player " + SORTS[kind].substring(1) + " 0;", 1, 7);
            faultDue("player " + SORTS[kind].substring(0, SORTS[kind].length() - 1) + " 0;", 1, 7);
        }
        faultDue("player player 0;", 1, 7);
        faultDue("player girl 0;", 1, 7);
        for (int kind = 1; kind <= 5; kind++) {
            for (String other : almost(SORTS[kind])) {
                faultDue("player " + other + " 0;", 1, 7);
            }
        }
    }

    /** Words in which one letter is the one ahead of it, or behind it. */
    private static String[] almost(String word) {
        String[] words = new String[2 * word.length()];
        for (int i = 0; i < word.length(); i++) {
            String ahead = word.substring(0, i);
            String behind = word.substring(i + 1);
            words[2 * i] = ahead + (char) (word.charAt(i) - 1) + behind;
            words[2 * i + 1] = ahead + (char) (word.charAt(i) + 1) + behind;
        }
        return words;
    }

    private static void handsOfTexts() {
        due("hands", hands(hallOf("boy0 boy1 boy2")), "012");
        for (int hand = 3; hand <= 999; hand = hand * 10 + 9) {
            faultDue("player boy " + hand + ";", 2, 11);
        }
        faultDue("player boy 10;", 2, 11);
        faultDue("player boy 100;", 2, 11);
        faultDue("player boy 003;", 2, 11);
        faultDue("player boy -1;", 1, 11);
    }

    private static void eightPlayers() {
        FistTrains x = new FistTrains();
        due("hall of 8", read(x, TEXT.repeat(7) + "player spy 2;"), 8);
        due("kind(7)", x.kind(7), 5);
        due("hand of 7", x.player(7, 0), 2);
        due("kind(8)", x.kind(8), BAD);
        due("hall of 9", read(x, TEXT.repeat(9)), FAULTY - 104);
        due("the 8 stay", x.count(1), 8);
    }

    private static void hallInPlace() {
        FistTrains x = hallOf("boy0 boy1 boy2 spy0 spy1 mirror0 mirror1 teacher0");
        due("hall", read(x, textOf("steady2 teacher1")), 2);
        due("count(1)", x.count(1), 2);
        due("hands", hands(x), "21");
        due("kind(0)", x.kind(0), 2);
        due("kind(1)", x.kind(1), 3);
        due("kind(2)", x.kind(2), BAD);
        due("left(0)", x.left(0), 0);
        due("hall", read(x, textOf("spy1 spy2 spy0")), 3);
        due("hands", hands(x), "120");
        String[] halls = {"steady1 steady1 steady0", "boy1", "mirror0 boy0 boy2 steady2"};
        for (String players : halls) {
            FistTrains y = hallOf("boy0 boy1 boy2 spy0 spy1 mirror0 mirror1 teacher0");
            y.round();
            y.left(0);
            read(y, textOf(players));
            due("all that is foretold of " + players, foretells(y), foretells(hallOf(players)));
        }
    }

    private static void noHallAtFirst() {
        FistTrains x = new FistTrains();
        due("count(1)", x.count(1), 0);
        due("count(2)", x.count(2), 0);
        due("round()", x.round(), STATE);
        due("left(0)", x.left(0), STATE);
        due("image(0)", x.image(0), STATE);
        due("kind(0)", x.kind(0), BAD);
    }

    private static void eachLeads() {
        FistTrains x = hallOf("boy0 boy0 boy0");
        x.round();
        x.round();
        read(x, textOf("boy0 boy1 boy2 boy0 boy1 boy2 boy0 boy1"));
        due("leaders", leaders(x), "01234567");
        due("trains", trains(x), "11111111");
        due("count(2)", x.count(2), 8);
    }

    private static void roundAndTime() {
        FistTrains x = hallOf("boy0 boy0 boy0");
        x.round();
        due("count(3)", x.count(3), 1);
        due("count(4)", x.count(4), 9);
        x.left(0);
        read(x, TEXT + TEXT);
        due("count(3) of a new HALL", x.count(3), 0);
        due("count(4) of a new HALL", x.count(4), 0);
    }

    private static void noActs() {
        FistTrains x = hallOf("boy0 boy0 boy0");
        x.round();
        x.hand(0, 1);
        read(x, TEXT + TEXT);
        due("count(5)", x.count(5), 0);
        due("undo()", x.undo(), STATE);
        due("count(1)", x.count(1), 2);
    }

    private static void imagesAndRowsStay() {
        FistTrains x = hallOf("boy0 spy2");
        x.image(0);
        x.hand(0, 1);
        x.image(1);
        rowOf(x, 2, 1, 2, 1);
        rowOf(x, 5, 0, 0, 0);
        read(x, textOf("steady0 steady0"));
        due("count(0)", x.count(0), 2);
        due("hands(2)", x.hands(2), 2);
        due("hands", hands(x), "21");
        due("restore(0)", x.restore(0), 1);
        due("hands", hands(x), "02");
        due("kind(1)", x.kind(1), 5);
        due("restore(1)", x.restore(1), 1);
        due("hands", hands(x), "12");
    }

    // ---- faults

    private static void faults() {
        sentence("FAULTS, the first TOKEN that has one", TermsTest::firstFault);
        sentence("(its first byte)", TermsTest::firstByte);
        sentence("of one TOKEN the least:", TermsTest::leastFault);
        sentence("1 it cannot stand there", TermsTest::cannotStand);
        sentence("or is none", TermsTest::isNone);
        sentence("(a run of four figures or more, at its first;", TermsTest::runOfFigures);
        sentence("the end: how many bytes there are);", TermsTest::theEnd);
        sentence("2 a NUMBER that is not as told;", TermsTest::numberWrong);
        sentence("3 a player more than there is room for (its word).", TermsTest::playerTooMany);
    }

    private static void firstFault() {
        faultDue("player boy 3 boy", 2, 11);
        faultDue("player boy 3 !", 2, 11);
        faultDue("player boy 0; ! player boy 7;", 1, 14);
        faultDue("player boy 7; ! player boy 0;", 2, 11);
        faultDue("! player boy 7;", 1, 0);
        faultDue(TEXT.repeat(7) + "player boy 3;player", 2, 102);
        faultDue(TEXT.repeat(8) + "player boy 3;", 3, 104);
    }

    private static void firstByte() {
        faultDue("   boy 0;", 1, 3);
        faultDue("player   teachers 0;", 1, 9);
        faultDue("player boy  345;", 2, 12);
        faultDue("player boy \n 12345;", 1, 13);
        faultDue("player boy 0  player", 1, 14);
        faultDue("player boy 0;\n  spy", 1, 16);
        faultDue(TEXT.repeat(8) + "  player", 3, 106);
    }

    private static void leastFault() {
        faultDue("player 9 0;", 1, 7);
        faultDue("9;", 1, 0);
        faultDue("player boy 9999;", 1, 11);
        faultDue("player boy 0 9;", 1, 13);
        faultDue("player boy 0; 7", 1, 14);
        faultDue(TEXT.repeat(8) + "9", 1, 104);
        faultDue(TEXT.repeat(8) + "boy", 1, 104);
    }

    private static void cannotStand() {
        faultDue("spy", 1, 0);
        faultDue(";", 1, 0);
        faultDue("0", 1, 0);
        faultDue("player ;", 1, 7);
        faultDue("player 2", 1, 7);
        faultDue("player player", 1, 7);
        faultDue("player spy ;", 1, 11);
        faultDue("player spy spy", 1, 11);
        faultDue("player spy 2 2", 1, 13);
        faultDue("player spy 2 spy", 1, 13);
        faultDue("player spy 2; spy", 1, 14);
        faultDue("player spy 2; 2", 1, 14);
        faultDue("player spy 2; ;", 1, 14);
    }

    private static void isNone() {
        String[] none = {"!", ",", "-", "'", "{", "}", ".", "A", "_", "/", ":", "`", String.valueOf((char) 0),
            String.valueOf((char) 127), String.valueOf((char) 255)};
        for (String sign : none) {
            faultDue(sign + TEXT, 1, 0);
            faultDue("player " + sign + " 0;", 1, 7);
            faultDue("player boy " + sign + "0;", 1, 11);
            faultDue("player boy 0" + sign + ";", 1, 12);
            faultDue(TEXT + sign, 1, 13);
        }
    }

    private static void runOfFigures() {
        reads("player boy 001;", 1);
        faultDue("player boy 0001;", 1, 11);
        faultDue("player boy 00000;", 1, 11);
        faultDue("player boy 1234;", 1, 11);
        faultDue("player boy 4294967296;", 1, 11);
        faultDue("player boy " + "0".repeat(180), 1, 11);
        faultDue("1234", 1, 0);
    }

    private static void theEnd() {
        faultDue("", 1, 0);
        faultDue(" ", 1, 1);
        faultDue("player", 1, 6);
        faultDue("player\n", 1, 7);
        faultDue("player boy", 1, 10);
        faultDue("player boy  ", 1, 12);
        faultDue("player boy 2", 1, 12);
        faultDue("player boy 2   ", 1, 15);
        faultDue(TEXT + "player", 1, 19);
        faultDue(" ".repeat(200), 1, 200);
        faultDue("player boy 0" + " ".repeat(188), 1, 200);
    }

    private static void numberWrong() {
        reads("player boy 2;", 1);
        faultDue("player boy 3;", 2, 11);
        faultDue("player boy 3", 2, 11);
        faultDue("player boy 10;", 2, 11);
        faultDue("player boy 256;", 2, 11);
        faultDue("player boy 999;", 2, 11);
        faultDue(TEXT + "player spy 4;", 2, 24);
    }

    private static void playerTooMany() {
        String eight = "player spy 1;".repeat(8);
        reads(eight, 8);
        faultDue(eight + "player", 3, 104);
        faultDue(eight + "player spy 1;", 3, 104);
        faultDue(eight + " player spy 9;", 3, 105);
        faultDue(eight + "player 7;", 3, 104);
        faultDue(eight + "players", 1, 104);
    }

    // ---- bouts

    private static void bouts() {
        sentence("HANDS: 0 stone, 1 paper, 2 scissors: paper beats stone, scissors paper, stone scissors.",
            TermsTest::whatBeatsWhat);
        sentence("NEXT of a HAND is the one that beats it.", TermsTest::nextOfHands);
        sentence("A BOUT of two who LEAD", TermsTest::twoWhoLead);
        sentence("THROW by THROW: each plays his HAND;", TermsTest::eachPlaysHisHand);
        sentence("a spy in the first THROW the NEXT of the HAND that the other one has", TermsTest::spyPlaysNext);
        sentence("(both as they have them ahead of it; of two spies each does so).", TermsTest::twoSpies);
        sentence("If both played alike, each has another HAND, by the two that were played:", TermsTest::tiesGoOn);
        sentence("a boy NEXT of his;", TermsTest::boyBehindATie);
        sentence("a steady one his own;", TermsTest::steadyBehindATie);
        sentence("a teacher NEXT of his, but stone, where that is scissors (behind paper);",
            TermsTest::teacherBehindATie);
        sentence("mirrors and spies NEXT of the other one's.", TermsTest::mirrorBehindATie);
        sentence("Else it ends: both have the HANDS then that they played, who beat the other one has won.",
            TermsTest::boutEnds);
        sentence("At the latest it ends with the 9th THROW:", TermsTest::nineThrows);
        sentence("if that is a tie, too (both have what they played)", TermsTest::handsBehindNineThrows);
        sentence("who has the longer TRAIN has won", TermsTest::longerTrainWins);
        sentence("of like ones the lesser number.", TermsTest::lesserNumberWins);
        sentence("Who has lost LEADS no more: he and all who are in his TRAIN are in that of the winner.",
            TermsTest::loserGoesBehind);
    }

    /** A bout of the first two of a hall, in both orders of the call: who wins, in how many throws, hands then. */
    private static void boutDue(String players, int winner, int throwsDue, String handsDue) {
        for (int a = 0; a < 2; a++) {
            FistTrains x = hallOf(players);
            String call = "(" + a + ", " + (1 - a) + ") of " + players;
            due("beats" + call, x.beats(a, 1 - a, 0), winner);
            due("throws of beats" + call, x.beats(a, 1 - a, 1), throwsDue);
            due("bout" + call, x.bout(a, 1 - a), winner);
            due("time of bout" + call, x.count(4), throwsDue);
            due("hands behind bout" + call, hands(x).substring(0, 2), handsDue);
        }
    }

    private static void whatBeatsWhat() {
        boutDue("steady0 steady1", 1, 1, "01");
        boutDue("steady1 steady0", 0, 1, "10");
        boutDue("steady1 steady2", 1, 1, "12");
        boutDue("steady2 steady1", 0, 1, "21");
        boutDue("steady2 steady0", 1, 1, "20");
        boutDue("steady0 steady2", 0, 1, "02");
    }

    private static void nextOfHands() {
        boutDue("spy0 steady0", 0, 1, "10");
        boutDue("spy0 steady1", 0, 1, "21");
        boutDue("spy0 steady2", 0, 1, "02");
    }

    private static void twoWhoLead() {
        FistTrains x = hallOf("steady0 steady1 steady2");
        x.bout(0, 1);
        due("bout(0, 2), 0 does not lead", x.bout(0, 2), STATE);
        due("bout(2, 0), 0 does not lead", x.bout(2, 0), STATE);
        due("bout(0, 1), of one train", x.bout(0, 1), STATE);
        due("bout(1, 2)", x.bout(1, 2), 2);
    }

    private static void eachPlaysHisHand() {
        for (int kind = 1; kind <= 4; kind++) {
            for (int other = 1; other <= 4; other++) {
                for (int hand = 0; hand < 3; hand++) {
                    int next = (hand + 1) % 3;
                    boutDue(SORTS[kind] + hand + " " + SORTS[other] + next, 1, 1, "" + hand + next);
                }
            }
        }
    }

    private static void spyPlaysNext() {
        for (int kind = 1; kind <= 4; kind++) {
            for (int hand = 0; hand < 3; hand++) {
                for (int own = 0; own < 3; own++) {
                    int next = (hand + 1) % 3;
                    boutDue("spy" + own + " " + SORTS[kind] + hand, 0, 1, "" + next + hand);
                    boutDue(SORTS[kind] + hand + " spy" + own, 1, 1, "" + hand + next);
                }
            }
        }
    }

    private static void twoSpies() {
        boutDue("spy0 spy1", 0, 1, "21");
        boutDue("spy1 spy2", 0, 1, "02");
        boutDue("spy2 spy0", 0, 1, "10");
        boutDue("spy1 spy0", 1, 1, "12");
        boutDue("spy2 spy1", 1, 1, "20");
        boutDue("spy0 spy2", 1, 1, "01");
    }

    private static void tiesGoOn() {
        boutDue("boy0 steady0", 0, 2, "10");
        boutDue("teacher1 mirror1", 0, 2, "02");
        boutDue("boy2 teacher2", 1, 4, "20");
    }

    private static void boyBehindATie() {
        boutDue("boy0 steady0", 0, 2, "10");
        boutDue("boy1 steady1", 0, 2, "21");
        boutDue("boy2 steady2", 0, 2, "02");
        boutDue("steady2 boy2", 1, 2, "20");
    }

    private static void steadyBehindATie() {
        for (int hand = 0; hand < 3; hand++) {
            boutDue("steady" + hand + " steady" + hand, 0, 9, "" + hand + hand);
            boutDue("steady" + hand + " boy" + hand, 1, 2, "" + hand + (hand + 1) % 3);
        }
    }

    private static void teacherBehindATie() {
        boutDue("teacher0 steady0", 0, 2, "10");
        boutDue("teacher1 steady1", 1, 2, "01");
        boutDue("teacher2 steady2", 0, 2, "02");
        boutDue("boy0 teacher0", 1, 3, "20");
        boutDue("boy1 teacher1", 1, 2, "20");
        boutDue("boy2 teacher2", 1, 4, "20");
        boutDue("teacher0 teacher0", 0, 9, "00");
        boutDue("teacher1 teacher1", 0, 9, "11");
        boutDue("teacher2 teacher2", 0, 9, "11");
    }

    private static void mirrorBehindATie() {
        boutDue("mirror0 steady0", 0, 2, "10");
        boutDue("mirror1 steady1", 0, 2, "21");
        boutDue("mirror2 steady2", 0, 2, "02");
        boutDue("mirror1 teacher1", 1, 2, "20");
        boutDue("mirror0 mirror0", 0, 9, "22");
        boutDue("mirror1 boy1", 0, 9, "00");
        boutDue("spy0 spy0", 0, 9, "00");
        boutDue("spy1 spy1", 0, 9, "11");
        boutDue("spy2 spy2", 0, 9, "22");
    }

    private static void boutEnds() {
        boutDue("boy2 boy1", 0, 1, "21");
        boutDue("teacher1 boy1", 0, 2, "02");
        FistTrains x = hallOf("steady1 boy2 boy2");
        due("a longer train does not win a throw", x.bout(1, 0), 1);
        x.hand(1, 0);
        x.hand(2, 1);
        due("who beat the other one", x.bout(1, 2), 2);
        due("hands", hands(x), "101");
    }

    private static void nineThrows() {
        String[] ties = {"steady0 steady0", "boy0 boy0", "boy1 mirror1", "mirror2 mirror2", "teacher0 teacher0",
            "spy1 spy1"};
        for (String players : ties) {
            due("throws of " + players, hallOf(players).beats(0, 1, 1), 9);
            FistTrains x = hallOf(players);
            x.round();
            due("time of " + players, x.count(4), 9);
            due("leaders", leaders(x), "00");
        }
    }

    private static void handsBehindNineThrows() {
        boutDue("boy0 boy0", 0, 9, "22");
        boutDue("boy1 boy1", 0, 9, "00");
        boutDue("boy2 boy2", 0, 9, "11");
        boutDue("mirror2 boy2", 0, 9, "11");
        boutDue("steady1 steady1", 0, 9, "11");
        boutDue("teacher2 teacher2", 0, 9, "11");
        boutDue("spy2 spy2", 0, 9, "22");
    }

    private static void longerTrainWins() {
        FistTrains x = hallOf("steady1 steady1 steady0 steady0 steady0");
        x.bout(1, 2);
        due("beats(0, 1, 0), 1 against 2", x.beats(0, 1, 0), 1);
        due("bout(0, 1), 1 against 2", x.bout(0, 1), 1);
        FistTrains y = hallOf("steady1 steady1 steady0 steady0 steady0");
        y.bout(0, 2);
        y.bout(1, 3);
        y.bout(1, 4);
        due("beats(0, 1, 0), 2 against 3", y.beats(0, 1, 0), 1);
        due("beats(1, 0, 0), 3 against 2", y.beats(1, 0, 0), 1);
        due("bout(1, 0), 3 against 2", y.bout(1, 0), 1);
        due("trains", trains(y), "55555");
    }

    private static void lesserNumberWins() {
        due("bout(1, 0)", hallOf("steady1 steady1").bout(1, 0), 0);
        FistTrains x = hallOf("steady0 steady1 steady1 steady0");
        x.bout(2, 0);
        x.bout(1, 3);
        due("beats(2, 1, 0), 2 against 2", x.beats(2, 1, 0), 1);
        due("bout(2, 1), 2 against 2", x.bout(2, 1), 1);
        due("bout(7, 6)", hallOf("boy0 boy0 boy0 boy0 boy0 boy0 boy0 boy0").bout(7, 6), 6);
    }

    private static void loserGoesBehind() {
        FistTrains x = hallOf("steady0 steady1 steady2 steady0 steady1");
        x.bout(0, 1);
        due("leaders", leaders(x), "11234");
        x.bout(3, 4);
        due("leaders", leaders(x), "11244");
        x.bout(1, 2);
        due("leaders", leaders(x), "22244");
        due("trains", trains(x), "33322");
        x.bout(4, 2);
        due("leaders", leaders(x), "22222");
        due("trains", trains(x), "55555");
        due("count(2)", x.count(2), 1);
        due("he who lost is no leader", x.bout(4, 2), STATE);
    }

    // ---- acts

    private static void acts() {
        sentence("ACTS (24 at most are kept", TermsTest::actsAreKept);
        sentence("of more the oldest is forgotten;", TermsTest::oldestIsForgotten);
        sentence("each can be undone, the latest first;", TermsTest::latestFirst);
        sentence("also such by which nothing becomes another):", TermsTest::actsOfNothing);
        sentence("a BOUT: TIME is as many THROWS more;", TermsTest::timeOfABout);
        sentence("a ROUND: of all who LEAD, by numbers, the first has a BOUT with the second, the third with the fourth,"
            + " and so on, all at once", TermsTest::pairsOfARound);
        sentence("(the last one waits, if there are odd ones);", TermsTest::lastOneWaits);
        sentence("TIME is more by the most THROWS of one of these;", TermsTest::timeOfARound);
        sentence("a PLAYER has another HAND.", TermsTest::anotherHand);
    }

    private static FistTrains withActs(int acts) {
        FistTrains x = hallOf("boy0");
        for (int i = 1; i <= acts; i++) {
            x.hand(0, i % 3);
        }
        return x;
    }

    private static int allUndone(FistTrains x) {
        int undone = 0;
        while (undone < 100 && x.undo() != STATE) {
            undone++;
        }
        return undone;
    }

    private static void actsAreKept() {
        due("count(5) of 23", withActs(23).count(5), 23);
        due("count(5) of 24", withActs(24).count(5), 24);
        due("count(5) of 25", withActs(25).count(5), 24);
        due("count(5) of 60", withActs(60).count(5), 24);
        due("undone of 24", allUndone(withActs(24)), 24);
        due("undone of 25", allUndone(withActs(25)), 24);
        due("undone of 49", allUndone(withActs(49)), 24);
    }

    private static void oldestIsForgotten() {
        for (int acts = 24; acts <= 50; acts++) {
            FistTrains x = withActs(acts);
            due("undone of " + acts, allUndone(x), 24);
            due("hand behind " + acts + " less 24", x.player(0, 0), (acts - 24) % 3);
        }
        FistTrains x = withActs(24);
        x.undo();
        x.hand(0, 1);
        x.hand(0, 2);
        due("undone behind an undo", allUndone(x), 24);
        due("hand, the first act forgotten", x.player(0, 0), 1);
    }

    private static void latestFirst() {
        FistTrains x = hallOf("steady0 steady1 steady0 steady2 steady1");
        x.hand(0, 2);
        x.bout(0, 1);
        x.round();
        rowOf(x, 0, 0, 1, 1, 1, 1, 1);
        x.hands(0);
        due("hands", hands(x), "11111");
        due("undo() of hands", x.undo(), 3);
        due("hands", hands(x), "21021");
        due("leaders", leaders(x), "22233");
        due("undo() of a round", x.undo(), 2);
        due("leaders", leaders(x), "00234");
        due("count(3)", x.count(3), 0);
        due("count(4)", x.count(4), 1);
        due("undo() of a bout", x.undo(), 1);
        due("leaders", leaders(x), "01234");
        due("count(4)", x.count(4), 0);
        due("hands", hands(x), "21021");
        due("undo() of a hand", x.undo(), 0);
        due("hands", hands(x), "01021");
        due("undo() of none", x.undo(), STATE);
    }

    private static void actsOfNothing() {
        FistTrains x = hallOf("boy1 boy2");
        due("hand as it is", x.hand(0, 1), 1);
        due("count(5)", x.count(5), 1);
        rowOf(x, 0, 0, 1, 2);
        due("hands as they are", x.hands(0), 0);
        due("count(5)", x.count(5), 2);
        x.hand(0, 2);
        due("undo()", x.undo(), 2);
        due("undo()", x.undo(), 1);
        due("hands", hands(x), "12");
        due("undo()", x.undo(), 0);
        due("hands", hands(x), "12");
    }

    private static void timeOfABout() {
        FistTrains x = hallOf("steady0 steady1 boy1 steady2 steady2");
        x.bout(0, 1);
        due("count(4)", x.count(4), 1);
        x.bout(1, 2);
        due("count(4)", x.count(4), 1 + 2);
        x.bout(3, 4);
        due("count(4)", x.count(4), 1 + 2 + 9);
        due("count(3)", x.count(3), 0);
    }

    private static void pairsOfARound() {
        FistTrains x = hallOf("steady0 steady1 steady2 steady1 steady0 steady2 steady1 steady0");
        due("round()", x.round(), 4);
        due("leaders", leaders(x), "11224466");
        due("round()", x.round(), 2);
        due("leaders", leaders(x), "22226666");
        due("round()", x.round(), 1);
        due("leaders", leaders(x), "22222222");
        FistTrains y = hallOf("steady1 steady0 steady0 steady1 steady2");
        y.bout(0, 2);
        due("round(), of 0, 1, 3, 4", y.round(), 2);
        due("leaders", leaders(y), "00044");
    }

    private static void lastOneWaits() {
        FistTrains x = hallOf("boy0 boy1 boy0");
        due("round() of 3", x.round(), 2);
        due("leaders", leaders(x), "112");
        due("hands", hands(x), "010");
        FistTrains y = hallOf("steady0 steady1 steady0 steady1 steady0 steady1 spy2");
        due("round() of 7", y.round(), 4);
        due("leaders", leaders(y), "1133556");
        due("hand of 6", y.player(6, 0), 2);
        due("train of 6", y.player(6, 2), 1);
        due("count(4)", y.count(4), 1);
    }

    private static void timeOfARound() {
        FistTrains x = hallOf("boy2 teacher2 steady0 steady1 boy0 steady0");
        x.round();
        due("count(4), of 4, 1, 2", x.count(4), 4);
        FistTrains y = hallOf("steady0 steady1 boy0 steady0 steady0 steady0");
        y.round();
        due("count(4), of 1, 2, 9", y.count(4), 9);
        y.round();
        due("count(4), with 2 more", y.count(4), 11);
        FistTrains z = hallOf("steady0 steady1 steady2 steady1");
        z.round();
        due("count(4), of 1, 1", z.count(4), 1);
    }

    private static void anotherHand() {
        FistTrains x = hallOf("boy0 boy1");
        x.hand(1, 2);
        due("hands", hands(x), "02");
        due("count(5)", x.count(5), 1);
        due("count(4)", x.count(4), 0);
        due("count(3)", x.count(3), 0);
        due("leaders", leaders(x), "01");
        x.undo();
        due("hands", hands(x), "01");
    }

    // ---- foretold

    private static void foretelling() {
        sentence("FORETOLD (nothing changes).", TermsTest::nothingChanges);
        sentence("LEFT: by ROUNDS, till one LEADS alone: who;", TermsTest::whoIsLeft);
        sentence("how many ROUNDS, how much TIME (both from now on).", TermsTest::roundsAndTimeFromNow);
        sentence("LONGEST behind n ROUNDS (0 to 9): the size of the longest TRAIN;", TermsTest::longestBehindRounds);
        sentence("who LEADS it, of several the first.", TermsTest::firstOfTheLongest);
        sentence("BEGIN of one who LEADS: the HAND (in place of his now) by which, by ROUNDS, he LEADS longest",
            TermsTest::beginLongest);
        sentence("(by how many ROUNDS; to be LEFT is longest)", TermsTest::beginToBeLeft);
        sentence("all others as they are;", TermsTest::othersAsTheyAre);
        sentence("of several the least. SEEK", TermsTest::leastBeginning);
        sentence("SEEK of one who LEADS: all others who LEAD (bits) with whom he may have a BOUT now",
            TermsTest::othersWhoLead);
        sentence("by which, and then by ROUNDS, he is LEFT.", TermsTest::leftBehindTheBout);
    }

    private static void nothingChanges() {
        foretold(TermsTest::busy, "beats(0, 3, 0)", 3, x -> x.beats(0, 3, 0));
        foretold(TermsTest::busy, "beats(3, 0, 1)", 1, x -> x.beats(3, 0, 1));
        foretold(TermsTest::busy, "left(0)", 3, x -> x.left(0));
        foretold(TermsTest::busy, "left(1)", 1, x -> x.left(1));
        foretold(TermsTest::busy, "left(2)", 1, x -> x.left(2));
        foretold(TermsTest::busy, "longest(0, 0)", 3, x -> x.longest(0, 0));
        foretold(TermsTest::busy, "longest(9, 1)", 3, x -> x.longest(9, 1));
        foretold(TermsTest::busy, "begin(0)", 0, x -> x.begin(0));
        foretold(TermsTest::busy, "seek(3)", 1, x -> x.seek(3));
        foretold(TermsTest::busy, "fewest(0, -1)", NONE, x -> x.fewest(0, -1));
        foretold(TermsTest::busy, "fewest(3, 4)", 1, x -> x.fewest(3, 4));
        foretold(TermsTest::busy, "begun(0, 3)", 7, x -> x.begun(0, 3));
        foretold(TermsTest::busy, "odds(0, 3, 3, 3, 1)", 2, x -> x.odds(0, 3, 3, 3, 1));
        foretold(TermsTest::busy, "gain(3, 3, 3)", 0, x -> x.gain(3, 3, 3));
        for (int what = 0; what < 3; what++) {
            FistTrains x = hallOf("boy0 boy1 teacher1 mirror0 spy1 steady2 boy2");
            String before = seen(x);
            x.left(what);
            due("seen behind left", seen(x), before);
            x.longest(2, what % 2);
            due("seen behind longest", seen(x), before);
            x.begin(what);
            due("seen behind begin", seen(x), before);
            x.seek(what);
            due("seen behind seek", seen(x), before);
            x.fewest(what, 6 - what);
            due("seen behind fewest", seen(x), before);
            x.begun(what, 6);
            due("seen behind begun", seen(x), before);
        }
    }

    private static void leftDue(FistTrains x, int who, int rounds, int time) {
        due("left(0)", x.left(0), who);
        due("left(1)", x.left(1), rounds);
        due("left(2)", x.left(2), time);
    }

    private static void whoIsLeft() {
        leftDue(hallOf("boy0"), 0, 0, 0);
        leftDue(hallOf("steady0 steady1"), 1, 1, 1);
        leftDue(hallOf("steady0 steady1 steady2"), 2, 2, 2);
        leftDue(hallOf("steady0 steady1 steady2 steady0 steady1 steady2 steady0 steady1"), 5, 3, 3);
        leftDue(hallOf("boy0 boy1 boy2 boy0 boy1 boy2 boy0 spy0"), 7, 3, 3);
        FistTrains x = hallOf("steady0 steady1 boy0 boy0 steady2");
        int who = x.left(0);
        for (int i = 0; i < 3; i++) {
            x.round();
        }
        due("count(2) behind the rounds", x.count(2), 1);
        due("who leads behind the rounds", x.player(0, 1), who);
    }

    private static void roundsAndTimeFromNow() {
        FistTrains x = hallOf("steady0 steady1 boy0 boy0 steady2");
        leftDue(x, 2, 3, 9 + 1 + 2);
        x.round();
        leftDue(x, 2, 2, 1 + 2);
        x.round();
        leftDue(x, 2, 1, 2);
        x.round();
        leftDue(x, 2, 0, 0);
        FistTrains y = hallOf("steady0 steady0 steady1");
        y.bout(0, 1);
        leftDue(y, 2, 1, 1);
    }

    private static void longestDue(FistTrains x, int n, int size, int who) {
        due("longest(" + n + ", 0)", x.longest(n, 0), size);
        due("longest(" + n + ", 1)", x.longest(n, 1), who);
    }

    private static void longestBehindRounds() {
        FistTrains x = hallOf("steady0 steady1 steady2 steady0 steady1 steady2 steady0 steady1");
        longestDue(x, 0, 1, 0);
        longestDue(x, 1, 2, 1);
        longestDue(x, 2, 4, 1);
        longestDue(x, 3, 8, 5);
        longestDue(x, 4, 8, 5);
        longestDue(x, 9, 8, 5);
        due("longest(10, 0)", x.longest(10, 0), BAD);
        due("longest(-1, 0)", x.longest(-1, 0), BAD);
        longestDue(hallOf("boy0"), 0, 1, 0);
        longestDue(hallOf("boy0"), 9, 1, 0);
        FistTrains y = hallOf("steady0 steady0 steady1 steady1");
        y.bout(0, 2);
        longestDue(y, 0, 2, 2);
        y.bout(1, 2);
        longestDue(y, 0, 3, 2);
    }

    private static void firstOfTheLongest() {
        FistTrains x = hallOf("steady0 steady1 steady1 steady0 steady0");
        longestDue(x, 0, 1, 0);
        longestDue(x, 1, 2, 1);
        x.bout(2, 4);
        longestDue(x, 0, 2, 2);
        x.bout(0, 1);
        longestDue(x, 0, 2, 1);
        FistTrains y = hallOf("steady1 steady0 steady2 steady1 steady0");
        longestDue(y, 1, 2, 0);
    }

    private static void beginLongest() {
        FistTrains x = hallOf("steady0 steady1 steady0 steady2");
        due("begin(3), two rounds by paper", x.begin(3), 1);
        FistTrains y = hallOf("steady0 steady0 spy1 spy2");
        due("begin(1), one round by paper", y.begin(1), 1);
        y.hand(1, 2);
        due("begin(1), in place of his now", y.begin(1), 1);
        FistTrains z = hallOf("steady2 steady0 steady1");
        due("begin(0), to be left by paper, one round by stone", z.begin(0), 1);
    }

    private static void beginToBeLeft() {
        FistTrains w = hallOf("steady0 steady0 steady1 steady1 spy0 boy0 boy0 boy0");
        due("begin(0): two rounds by paper, one by stone, none by scissors", w.begin(0), 1);
        FistTrains x = hallOf("steady0 steady2");
        due("begin(1): to be left by paper", x.begin(1), 1);
        FistTrains y = hallOf("steady1 steady0 steady2");
        due("begin(2): waits, then stone", y.begin(2), 2);
        FistTrains z = hallOf("steady0 steady2 steady1 steady1");
        due("begin(0): left by scissors, one round by stone", z.begin(0), 2);
        due("begin(0), alone", hallOf("boy2").begin(0), 0);
    }

    private static void othersAsTheyAre() {
        FistTrains x = hallOf("steady0 steady2");
        due("begin(1) against stone", x.begin(1), 1);
        x.hand(0, 1);
        due("begin(1) against paper", x.begin(1), 2);
        x.hand(0, 2);
        due("begin(1) against scissors", x.begin(1), 0);
        due("his hand, as it was", x.player(1, 0), 2);
    }

    private static void leastBeginning() {
        due("stone by a tie, paper by a throw", hallOf("steady2 steady0").begin(0), 0);
        due("by none, against a spy", hallOf("boy2 spy0").begin(0), 0);
        due("by each, for a spy", hallOf("spy2 boy0").begin(0), 0);
        due("paper by a tie, scissors by a throw", hallOf("steady1 steady1").begin(0), 1);
        due("stone by a throw, scissors by a tie", hallOf("steady2 steady2").begin(0), 0);
    }

    private static void othersWhoLead() {
        FistTrains x = hallOf("spy0 boy0 boy1 boy2");
        due("seek(0)", x.seek(0), 14);
        x.bout(1, 2);
        due("seek(0), 1 leads no more", x.seek(0), 12);
        due("seek(1)", x.seek(1), STATE);
        x.bout(0, 2);
        due("seek(0)", x.seek(0), 8);
        x.bout(0, 3);
        due("seek(0), alone", x.seek(0), 0);
        due("seek(0), of one", hallOf("spy0").seek(0), 0);
    }

    private static void leftBehindTheBout() {
        FistTrains x = hallOf("steady0 steady2 steady2");
        due("seek(0)", x.seek(0), 6);
        due("seek(1)", x.seek(1), 0);
        FistTrains y = hallOf("steady2 steady1 steady0 steady2");
        due("seek(2), 0 or 3 whom he beats, 0 loses to 1 else", y.seek(2), 8);
        FistTrains z = hallOf("steady0 steady2 steady1");
        due("seek(0), a bout is won, then a round lost", z.seek(0), 0);
        FistTrains w = hallOf("steady2 steady0 steady2");
        due("seek(1), by the bout and a round", w.seek(1), 5);
    }

    // ---- fewest, begun, odds

    private static void fewestAndOdds() {
        sentence("FEWEST for one who LEADS: the fewest PLAYERS who LEAD that must have another HAND now, so that he is"
            + " LEFT: how many;", TermsTest::fewestPlayers);
        sentence("the HAND of one then", TermsTest::handOfOne);
        sentence("of several ways that whose row of HANDS of all PLAYERS is the first (PLAYER by PLAYER, the least HAND"
            + " first);", TermsTest::firstRowOfHands);
        sentence("NONE. BEGUN:", TermsTest::noWay);
        sentence("BEGUN: HANDS (bits), each of which one who LEADS may have in place of his now, so that a told one who"
            + " LEADS is LEFT.", TermsTest::handsToBegin);
        sentence("ODDS of a HAND against one who plays stone, paper, scissors by A, B, C of 9",
            TermsTest::oddsOfHands);
        sentence("(0 to 9, 9 together;", TermsTest::nineTogether);
        sentence("ties are played again): to win: a fraction;", TermsTest::tiesArePlayedAgain);
        sentence("NONE: there would be ties alone.", TermsTest::tiesAlone);
        sentence("GAIN: the HAND whose odds are greatest", TermsTest::greatestOdds);
        sentence("of several the least; NONE.", TermsTest::leastOfTheGreatest);
    }

    private static void fewestPlayers() {
        due("none", hallOf("steady1 steady1").fewest(0, -1), 0);
        due("one", hallOf("steady1 steady1").fewest(1, -1), 1);
        due("alone", hallOf("steady1").fewest(0, -1), 0);
        due("none, with a round more", hallOf("steady0 steady1 steady1 steady2").fewest(3, -1), 0);
        due("two", hallOf("steady1 steady1 steady1 steady0").fewest(2, -1), 2);
        due("three", hallOf("steady1 steady1 steady0 steady0 boy0").fewest(3, -1), 3);
        FistTrains x = hallOf("steady1 steady1 steady1 steady1 steady1 steady1 steady1 steady1");
        due("the last of eight alike", x.fewest(7, -1), 1);
        due("the third of eight alike", x.fewest(2, -1), 1);
        FistTrains y = hallOf("boy0 boy0 boy1 boy0");
        due("the first of four", y.fewest(0, -1), 0);
        y.hand(2, 0);
        due("the first of four alike", y.fewest(0, -1), 0);
        FistTrains z = hallOf("steady0 spy0 steady0");
        z.bout(1, 0);
        due("who does not lead is not to have another", z.fewest(2, -1), NONE);
    }

    private static void handOfOne() {
        FistTrains x = hallOf("steady1 steady1");
        due("fewest(1, 0)", x.fewest(1, 0), 0);
        due("fewest(1, 1)", x.fewest(1, 1), 1);
        due("fewest(0, 0), as it is", x.fewest(0, 0), 1);
        due("fewest(0, 1), as it is", x.fewest(0, 1), 1);
        FistTrains y = hallOf("steady2 steady0 steady0");
        y.bout(0, 1);
        due("of one who does not lead", y.fewest(2, 0), 2);
        due("of one who leads", y.fewest(2, 1), 0);
        due("of the told one", y.fewest(2, 2), 1);
    }

    private static String rowDue(FistTrains x, int player) {
        StringBuilder row = new StringBuilder();
        int players = x.count(1);
        for (int k = 0; k < players; k++) {
            row.append(x.fewest(player, k));
        }
        return row.toString();
    }

    private static void firstRowOfHands() {
        due("his own hand, or the other one's", rowDue(hallOf("steady1 steady1"), 1), "01");
        due("the first one's stays", rowDue(hallOf("steady0 steady0"), 1), "01");
        due("the least of one", rowDue(hallOf("steady2 steady2"), 1), "12");
        due("of four ways of one the first", rowDue(hallOf("boy1 steady2"), 0), "02");
        due("of ways of two the first", rowDue(hallOf("steady0 teacher0 mirror1"), 0), "022");
        due("of ways of two the first", rowDue(hallOf("steady1 steady1 steady1 steady0"), 2), "0010");
        due("of ways of three the first", rowDue(hallOf("steady1 steady1 steady0 steady0 boy0"), 3), "00010");
        FistTrains x = hallOf("steady0 steady0 steady0 steady0");
        x.bout(2, 3);
        due("beyond a train", rowDue(x, 1), "0100");
    }

    private static void noWay() {
        FistTrains x = hallOf("spy0 boy0 boy2");
        due("fewest(1, -1)", x.fewest(1, -1), NONE);
        due("fewest(1, 0)", x.fewest(1, 0), NONE);
        due("fewest(1, 1)", x.fewest(1, 1), NONE);
        due("fewest(2, 2)", x.fewest(2, 2), NONE);
        due("fewest(0, -1)", x.fewest(0, -1), 0);
        due("status", x.status(), 0);
    }

    private static void handsToBegin() {
        FistTrains x = hallOf("steady1 steady1 steady1");
        due("begun(0, 0)", x.begun(0, 0), 2 + 4);
        due("begun(0, 1)", x.begun(0, 1), 1);
        due("begun(0, 2)", x.begun(0, 2), 0);
        due("begun(2, 2)", x.begun(2, 2), 4);
        due("begun(2, 0)", x.begun(2, 0), 1 + 2);
        x.hand(2, 2);
        due("begun(2, 2), in place of his now", x.begun(2, 2), 4);
        FistTrains y = hallOf("boy1 spy0");
        due("all hands", y.begun(0, 1), 7);
        due("no hand", y.begun(0, 0), 0);
        due("alone", hallOf("boy1").begun(0, 0), 7);
    }

    private static void oddsDue(int hand, int a, int b, int c, int above, int below) {
        FistTrains x = new FistTrains();
        String call = "odds(" + hand + ", " + a + ", " + b + ", " + c + ", ";
        due(call + "0)", x.odds(hand, a, b, c, 0), above);
        due(call + "1)", x.odds(hand, a, b, c, 1), below);
    }

    private static void oddsOfHands() {
        oddsDue(0, 1, 6, 2, 1, 4);
        oddsDue(1, 1, 6, 2, 1, 3);
        oddsDue(2, 1, 6, 2, 6, 7);
        oddsDue(0, 0, 0, 9, 1, 1);
        oddsDue(1, 9, 0, 0, 1, 1);
        oddsDue(2, 0, 9, 0, 1, 1);
        oddsDue(0, 0, 9, 0, 0, 1);
        oddsDue(1, 0, 0, 9, 0, 1);
        oddsDue(2, 9, 0, 0, 0, 1);
    }

    private static void nineTogether() {
        FistTrains x = new FistTrains();
        due("9, 0, 0", x.odds(1, 9, 0, 0, 0), 1);
        due("0, 9, 0", x.odds(2, 0, 9, 0, 0), 1);
        due("0, 0, 9", x.odds(0, 0, 0, 9, 0), 1);
        due("8 together", x.odds(0, 3, 3, 2, 0), BAD);
        due("10 together", x.odds(0, 3, 3, 4, 0), BAD);
        due("-1, 5, 5", x.odds(0, -1, 5, 5, 0), BAD);
        due("5, -1, 5", x.odds(0, 5, -1, 5, 0), BAD);
        due("5, 5, -1", x.odds(0, 5, 5, -1, 0), BAD);
        due("10, 0, -1", x.odds(0, 10, 0, -1, 0), BAD);
        due("-1, 10, 0", x.odds(0, -1, 10, 0, 0), BAD);
        due("0, -1, 10", x.odds(0, 0, -1, 10, 0), BAD);
        due("9 by wrapping around", x.odds(0, LEAST, LEAST, 9, 0), BAD);
    }

    private static void tiesArePlayedAgain() {
        oddsDue(0, 7, 1, 1, 1, 2);
        oddsDue(1, 1, 7, 1, 1, 2);
        oddsDue(2, 1, 1, 7, 1, 2);
        oddsDue(0, 8, 0, 1, 1, 1);
        oddsDue(0, 8, 1, 0, 0, 1);
        oddsDue(0, 2, 3, 4, 4, 7);
    }

    private static void tiesAlone() {
        oddsDue(0, 9, 0, 0, NONE, NONE);
        oddsDue(1, 0, 9, 0, NONE, NONE);
        oddsDue(2, 0, 0, 9, NONE, NONE);
    }

    private static void greatestOdds() {
        FistTrains x = new FistTrains();
        due("against stone", x.gain(9, 0, 0), 1);
        due("against paper", x.gain(0, 9, 0), 2);
        due("against scissors", x.gain(0, 0, 9), 0);
        due("1 by 4, 1 by 3, 6 by 7", x.gain(1, 6, 2), 2);
        due("4 by 7, 2 by 6, 3 by 5", x.gain(2, 3, 4), 2);
        due("1 by 4, 5 by 6, 3 by 8", x.gain(5, 3, 1), 1);
        due("by odds, not by wins: 4 by 4, 5 by 9", x.gain(5, 0, 4), 0);
        due("by odds, not by wins: 5 by 9, 4 by 4", x.gain(4, 5, 0), 1);
    }

    private static void leastOfTheGreatest() {
        FistTrains x = new FistTrains();
        due("all alike", x.gain(3, 3, 3), 0);
        due("one alone", x.gain(4, 1, 4), 0);
        for (int a = 0; a <= 9; a++) {
            for (int b = 0; b <= 9 - a; b++) {
                due("never NONE: gain(" + a + ", " + b + ", " + (9 - a - b) + ")", x.gain(a, b, 9 - a - b) == NONE,
                    false);
            }
        }
    }

    // ---- kinds, asks

    private static void kindsAndAsks() {
        sentence("KINDS of PLAYERS: 0 PLAYER; 1 BOY, a PLAYER; 2 STEADY, a BOY; 3 TEACHER, a BOY; 4 MIRROR, a PLAYER; 5"
            + " SPY, a MIRROR one.", TermsTest::kinds);
        sentence("By this it is asked.", TermsTest::askedByKinds);
        sentence("ASKS of PLAYERS, by BODIES, each of which leaves its number in THE TRACE as it begins",
            TermsTest::bodiesLeaveNumbers);
        sentence("(the first 16):", TermsTest::sixteenAtMost);
        sentence("0 SIZE: 10 lent to all PLAYERS: how many are in the TRAIN in which he is.", TermsTest::lentSize);
        sentence("11 of BOYS: what 10 gives, and MARK.", TermsTest::sizeOfBoys);
        sentence("12 of STEADY ones: 0 less what 11 gives.", TermsTest::sizeOfSteady);
        sentence("13 of MIRRORS: what 10 gives, less 100.", TermsTest::sizeOfMirrors);
        sentence("14 of SPIES: twice what 13 gives (asked once).", TermsTest::sizeOfSpies);
        sentence("1 MARK: 20 lent to all PLAYERS: his number.", TermsTest::lentMark);
        sentence("21 of BOYS: what 20 gives, and his HAND.", TermsTest::markOfBoys);
        sentence("22 of TEACHERS: what 21 gives, less 1000.", TermsTest::markOfTeachers);
        sentence("23 of MIRRORS: what 20 gives, less SIZE.", TermsTest::markOfMirrors);
        sentence("24 of STEADY ones: twice what 21 gives (asked once).", TermsTest::markOfSteady);
        sentence("(Of an ask the BODY told for the KIND begins, else that of the nearest KIND that it is, too, else the"
            + " one that is lent;", TermsTest::nearestBody);
        sentence("SIZE, MARK within others are asked of the same PLAYER anew.)", TermsTest::askedAnew);
    }

    private static final String ALL_KINDS = "boy2 steady2 teacher2 mirror2 spy2";

    private static void askDue(FistTrains x, int player, int what, int answer, String bodies) {
        due("ask(" + player + ", " + what + ")", x.ask(player, what), answer);
        due("trace of ask(" + player + ", " + what + ")", trace(x), bodies);
    }

    private static void kinds() {
        FistTrains x = hallOf(ALL_KINDS);
        String[] are = {"01", "012", "013", "04", "045"};
        for (int p = 0; p < 5; p++) {
            for (int kind = 0; kind <= 5; kind++) {
                boolean is = are[p].indexOf('0' + kind) >= 0;
                due("as(" + p + ", " + kind + ")", x.as(p, kind), is ? p : KIND);
            }
        }
        due("as(0, 6)", x.as(0, 6), BAD);
        due("as(0, -1)", x.as(0, -1), BAD);
    }

    private static void askedByKinds() {
        FistTrains x = hallOf(ALL_KINDS);
        String[] sizes = {"11", "12", "11", "13", "14"};
        String[] marks = {"21", "24", "22", "23", "23"};
        for (int p = 0; p < 5; p++) {
            x.ask(p, 0);
            due("the first body of SIZE of " + p, trace(x).substring(0, 2), sizes[p]);
            x.ask(p, 1);
            due("the first body of MARK of " + p, trace(x).substring(0, 2), marks[p]);
        }
        x.as(4, 0);
        askDue(x, 4, 0, -198, "14 13 10");
    }

    private static void bodiesLeaveNumbers() {
        FistTrains x = hallOf(ALL_KINDS);
        due("trace(0) ahead of an ask", x.trace(0), NONE);
        askDue(x, 0, 0, 3, "11 10 21 20");
        askDue(x, 1, 0, -7, "12 11 10 24 21 20");
        askDue(x, 4, 1, 202, "23 20 14 13 10");
        askDue(x, 0, 1, 2, "21 20");
    }

    private static void sixteenAtMost() {
        FistTrains x = hallOf(ALL_KINDS);
        for (int p = 0; p < 5; p++) {
            for (int what = 0; what < 2; what++) {
                x.ask(p, what);
                x.ask(p, what);
                for (int i = 6; i <= 16; i++) {
                    due("trace(" + i + ")", x.trace(i), NONE);
                }
            }
        }
    }

    private static void lentSize() {
        FistTrains x = hallOf("mirror2 mirror1 mirror0 mirror0");
        due("SIZE of one", x.ask(0, 0) + 100, 1);
        x.bout(0, 1);
        due("SIZE of two", x.ask(0, 0) + 100, 2);
        due("SIZE of two, of him behind", x.ask(1, 0) + 100, 2);
        x.bout(2, 0);
        due("SIZE of three", x.ask(1, 0) + 100, 3);
        due("SIZE of another train", x.ask(3, 0) + 100, 1);
    }

    private static void sizeOfBoys() {
        FistTrains x = hallOf("steady0 boy2 boy0 steady1");
        askDue(x, 1, 0, 1 + (1 + 2), "11 10 21 20");
        x.bout(1, 3);
        askDue(x, 1, 0, 2 + (1 + 2), "11 10 21 20");
        askDue(x, 2, 0, 1 + (2 + 0), "11 10 21 20");
    }

    private static void sizeOfSteady() {
        FistTrains x = hallOf("steady0 steady1 steady2");
        askDue(x, 0, 0, -(1 + 0), "12 11 10 24 21 20");
        askDue(x, 1, 0, -(1 + 2 * (1 + 1)), "12 11 10 24 21 20");
        askDue(x, 2, 0, -(1 + 2 * (2 + 2)), "12 11 10 24 21 20");
        x.bout(0, 1);
        askDue(x, 0, 0, -(2 + 0), "12 11 10 24 21 20");
    }

    private static void sizeOfMirrors() {
        FistTrains x = hallOf("mirror0 mirror1");
        askDue(x, 0, 0, -99, "13 10");
        x.bout(0, 1);
        askDue(x, 0, 0, -98, "13 10");
        askDue(x, 1, 0, -98, "13 10");
    }

    private static void sizeOfSpies() {
        FistTrains x = hallOf("spy0 boy1");
        askDue(x, 0, 0, -198, "14 13 10");
        x.bout(0, 1);
        askDue(x, 0, 0, -196, "14 13 10");
    }

    private static void lentMark() {
        FistTrains x = hallOf("boy0 boy0 boy0 boy0 boy0 boy0 boy0 boy0");
        for (int p = 0; p < 8; p++) {
            askDue(x, p, 1, p, "21 20");
        }
    }

    private static void markOfBoys() {
        FistTrains x = hallOf("boy1 boy2 boy0");
        askDue(x, 0, 1, 1, "21 20");
        askDue(x, 1, 1, 3, "21 20");
        askDue(x, 2, 1, 2, "21 20");
        x.hand(2, 2);
        askDue(x, 2, 1, 4, "21 20");
    }

    private static void markOfTeachers() {
        FistTrains x = hallOf("teacher0 teacher2");
        askDue(x, 0, 1, -1000, "22 21 20");
        askDue(x, 1, 1, -997, "22 21 20");
    }

    private static void markOfMirrors() {
        FistTrains x = hallOf("mirror0 mirror1 spy2");
        askDue(x, 0, 1, 99, "23 20 13 10");
        askDue(x, 1, 1, 1 + 99, "23 20 13 10");
        askDue(x, 2, 1, 2 + 198, "23 20 14 13 10");
        x.bout(2, 1);
        askDue(x, 1, 1, 1 + 98, "23 20 13 10");
        askDue(x, 2, 1, 2 + 196, "23 20 14 13 10");
    }

    private static void markOfSteady() {
        FistTrains x = hallOf("steady1 steady2");
        askDue(x, 0, 1, 2, "24 21 20");
        askDue(x, 1, 1, 6, "24 21 20");
    }

    private static void nearestBody() {
        FistTrains x = hallOf(ALL_KINDS);
        askDue(x, 1, 1, 6, "24 21 20");
        askDue(x, 2, 0, 1 + 4 - 1000, "11 10 22 21 20");
        askDue(x, 4, 1, 4 + 198, "23 20 14 13 10");
    }

    private static void askedAnew() {
        FistTrains x = hallOf(ALL_KINDS);
        askDue(x, 1, 0, -(1 + 6), "12 11 10 24 21 20");
        askDue(x, 2, 0, 1 - 996, "11 10 22 21 20");
        askDue(x, 4, 1, 4 + 198, "23 20 14 13 10");
        askDue(x, 3, 1, 3 + 99, "23 20 13 10");
    }
}
