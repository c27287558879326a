import java.io.IOException;
import java.util.regex.Pattern;

/** 'Terms' as it begins, and its first part, sentence by sentence: numbers, refusals, rows, texts of halls, faults. */
public final class TextTermsTest extends Sentences {
    public static void main(String[] args) throws IOException {
        section("Terms");
        refusals();
        section("Terms 1");
        rows();
        texts();
        faults();
        runAll(Pattern.compile("Terms( 1)?"));
    }

    // ---- numbers, refusals

    private static void refusals() {
        sentence("Numbers go from 0 on.", TextTermsTest::numbersFromZero);
        sentence("All that is divided is cut towards 0, but fractions, told as two numbers in lowest terms",
            TextTermsTest::lowestTerms);
        sentence("(0 is 0 by 1)", TextTermsTest::zeroByOne);
        sentence("Sets are bits.", TextTermsTest::setsAreBits);
        sentence("Refusals are answers, the first of these that fits, but as told: BAD", TextTermsTest::badComesFirst);
        sentence("but as told:", TextTermsTest::stateAheadOfBad);
        sentence("BAD (a number is not as told;", TextTermsTest::numberNotAsTold);
        sentence("there is no such thing)", TextTermsTest::noSuchThing);
        sentence("STATE (as told), FULL (as told), then FINDINGS", TextTermsTest::stateAndFullAheadOfFindings);
        sentence("of several the first in time:", TextTermsTest::firstFindingInTime);
        sentence("-1000010 less 1 NULL (a ROW that is missing)", TextTermsTest::nullIsAMissingRow);
        sentence("2 PLACE (no such place of a ROW)", TextTermsTest::placeOfARow);
        sentence("3 KIND (a PLAYER that is not that)", TextTermsTest::kindOfAPlayer);
        sentence("4 SIZE (fewer than none)", TextTermsTest::sizeFewerThanNone);
        sentence("5 STORE (ROWS of two LANES)", TextTermsTest::storeOfTwoLanes);
        sentence("What is refused, or found, changes nothing but status().", TextTermsTest::refusedChangesNothing);
        sentence("nothing but status()", TextTermsTest::foundChangesStatus);
    }

    private static void numbersFromZero() {
        FistTrains x = hallOf("steady1 steady0");
        due("row(0, 0, 1)", x.row(0, 0, 1), 1);
        due("set(0, 0, 5)", x.set(0, 0, 5), 5);
        due("set(0, 1, 5), the second of one item", x.set(0, 1, 5), PLACE);
        due("kind(0)", x.kind(0), 2);
        due("kind(2), the third of two", x.kind(2), BAD);
        due("image(0)", x.image(0), 1);
        due("bout(0, 1)", x.bout(0, 1), 0);
        due("ask(0, 1)", x.ask(0, 1), 2);
        due("trace(0)", x.trace(0), 24);
    }

    private static void lowestTerms() {
        FistTrains x = new FistTrains();
        for (int a = 0; a <= 9; a++) {
            for (int b = 0; b <= 9 - a; b++) {
                int c = 9 - a - b;
                int above = x.odds(0, a, b, c, 0);
                int below = x.odds(0, a, b, c, 1);
                String odds = "odds(0, " + a + ", " + b + ", " + c + ", ..)";
                if (a < 9) {
                    due(odds + " as a fraction", above * (b + c), below * c);
                    for (int divisor = 2; divisor <= 9; divisor++) {
                        due(odds + " by " + divisor, above % divisor == 0 && below % divisor == 0, false);
                    }
                }
            }
        }
        due("odds(0, 0, 0, 9, 0), 9 by 9", x.odds(0, 0, 0, 9, 0), 1);
        due("odds(0, 0, 0, 9, 1), 9 by 9", x.odds(0, 0, 0, 9, 1), 1);
        due("odds(0, 0, 3, 6, 0), 6 by 9", x.odds(0, 0, 3, 6, 0), 2);
        due("odds(0, 0, 3, 6, 1), 6 by 9", x.odds(0, 0, 3, 6, 1), 3);
        due("odds(0, 1, 4, 4, 0), 4 by 8", x.odds(0, 1, 4, 4, 0), 1);
        due("odds(0, 1, 4, 4, 1), 4 by 8", x.odds(0, 1, 4, 4, 1), 2);
        due("odds(0, 0, 4, 5, 1), 5 by 9", x.odds(0, 0, 4, 5, 1), 9);
    }

    private static void zeroByOne() {
        FistTrains x = new FistTrains();
        for (int b = 1; b <= 9; b++) {
            due("odds(0, .., " + b + ", 0, 0)", x.odds(0, 9 - b, b, 0, 0), 0);
            due("odds(0, .., " + b + ", 0, 1)", x.odds(0, 9 - b, b, 0, 1), 1);
        }
    }

    private static void setsAreBits() {
        due("seek, players 0 to 6", hallOf("boy0 boy1 boy2 boy0 boy1 boy2 boy0 spy0").seek(7), 127);
        due("seek, players 1 to 7", hallOf("spy0 boy0 boy1 boy2 boy0 boy1 boy2 boy0").seek(0), 254);
        due("begun, stone alone", hallOf("steady2 steady2").begun(0, 0), 1 + 4);
        due("begun, paper alone", hallOf("steady0 steady2").begun(0, 1), 2);
        due("no bit", hallOf("steady0 spy0").seek(0), 0);
    }

    private static void badComesFirst() {
        FistTrains x = busy();
        due("bout(1, 5), 1 does not lead", x.bout(1, 5), BAD);
        due("bout(1, 1), 1 does not lead", x.bout(1, 1), BAD);
        due("beats(1, 0, 2), 1 does not lead", x.beats(1, 0, 2), BAD);
        due("begin(5)", x.begin(5), BAD);
        due("seek(5)", x.seek(5), BAD);
        due("fewest(1, 5), 1 does not lead", x.fewest(1, 5), BAD);
        due("fewest(1, -2), 1 does not lead", x.fewest(1, -2), BAD);
        due("begun(1, 5), 1 does not lead", x.begun(1, 5), BAD);
        due("begun(5, 1), 1 does not lead", x.begun(5, 1), BAD);
        due("restore(2), of which none was kept", x.restore(2), BAD);
        due("row(8, 0, -1), fewer than none, too", x.row(8, 0, -1), BAD);
        due("row(0, 3, -1), fewer than none, too", x.row(0, 3, -1), BAD);
        due("copy(3, 0, 8, 0, 1), missing, too", x.copy(3, 0, 8, 0, 1), BAD);
        due("copy(8, 0, 3, 0, 1), missing, too", x.copy(8, 0, 3, 0, 1), BAD);
        due("as(0, 6), he is none", x.as(0, 6), BAD);
        due("odds(0, 9, 0, 0, 2), ties alone", x.odds(0, 9, 0, 0, 2), BAD);
        due("image(2), no HALL", new FistTrains().image(2), BAD);
        feed(x, " ".repeat(200 - x.count(6)));
        due("feed(0, 9), a full tape", x.feed(0, 9), BAD);
        due("feed(0, 0), a full tape", x.feed(0, 0), BAD);
    }

    private static void stateAheadOfBad() {
        FistTrains x = withoutHall();
        due("hands(8)", x.hands(8), STATE);
        due("left(3)", x.left(3), STATE);
        due("longest(10, 0)", x.longest(10, 0), STATE);
        due("longest(0, 2)", x.longest(0, 2), STATE);
    }

    private static void numberNotAsTold() {
        FistTrains x = busy();
        due("row(0, 3, 1)", x.row(0, 3, 1), BAD);
        due("row(0, 0, 41)", x.row(0, 0, 41), BAD);
        due("feed(0, 9)", x.feed(0, 9), BAD);
        due("hand(0, 3)", x.hand(0, 3), BAD);
        due("player(0, 3)", x.player(0, 3), BAD);
        due("beats(0, 3, 2)", x.beats(0, 3, 2), BAD);
        due("left(3)", x.left(3), BAD);
        due("longest(10, 0)", x.longest(10, 0), BAD);
        due("longest(0, 2)", x.longest(0, 2), BAD);
        due("fewest(0, -2)", x.fewest(0, -2), BAD);
        due("odds(3, 3, 3, 3, 0)", x.odds(3, 3, 3, 3, 0), BAD);
        due("odds(0, 3, 3, 3, 2)", x.odds(0, 3, 3, 3, 2), BAD);
        due("gain(3, 3, 4)", x.gain(3, 3, 4), BAD);
        due("as(0, 6)", x.as(0, 6), BAD);
        due("ask(0, 2)", x.ask(0, 2), BAD);
        due("count(7)", x.count(7), BAD);
    }

    private static void noSuchThing() {
        FistTrains none = withoutHall();
        FistTrains two = hallOf("boy0 boy1");
        for (int p : new int[] {0, 2}) {
            FistTrains x = p == 0 ? none : two;
            due("bout(" + p + ", 1)", x.bout(p, 1), BAD);
            due("bout(1, " + p + ")", x.bout(1, p), BAD);
            due("hand(" + p + ", 0)", x.hand(p, 0), BAD);
            due("player(" + p + ", 0)", x.player(p, 0), BAD);
            due("beats(" + p + ", 1, 0)", x.beats(p, 1, 0), BAD);
            due("beats(1, " + p + ", 0)", x.beats(1, p, 0), BAD);
            due("begin(" + p + ")", x.begin(p), BAD);
            due("seek(" + p + ")", x.seek(p), BAD);
            due("fewest(" + p + ", -1)", x.fewest(p, -1), BAD);
            due("fewest(0, " + p + ")", x.fewest(0, p), BAD);
            due("begun(" + p + ", 0)", x.begun(p, 0), BAD);
            due("begun(0, " + p + ")", x.begun(0, p), BAD);
            due("kind(" + p + ")", x.kind(p), BAD);
            due("as(" + p + ", 0)", x.as(p, 0), BAD);
            due("ask(" + p + ", 0)", x.ask(p, 0), BAD);
        }
        due("no such ROW", two.drop(8), BAD);
        due("no such IMAGE", two.restore(2), BAD);
    }

    private static void stateAndFullAheadOfFindings() {
        FistTrains x = withoutHall();
        due("hands(5), no HALL and missing", x.hands(5), STATE);
        due("hands(0), no HALL and too short", x.hands(0), STATE);
        due("status, none of them a finding of theirs", x.status(), 1);
        feed(x, " ".repeat(200 - x.count(6)));
        due("feed(0, 1), full", x.feed(0, 1), FULL);
        due("status, no finding", x.status(), 1);
    }

    private static void firstFindingInTime() {
        FistTrains x = busy();
        due("set(3, -1, 0): missing, then no place", x.set(3, -1, 0), NULL);
        due("copy(0, 9, 3, 0, 1): missing, then no place", x.copy(0, 9, 3, 0, 1), NULL);
        due("copy(0, 0, 1, 0, -1): two lanes, then no place", x.copy(0, 0, 1, 0, -1), STORE);
        due("copy(0, 9, 1, 0, 1): two lanes, then no place", x.copy(0, 9, 1, 0, 1), STORE);
        rowOf(x, 4, 2, 3, 3, 3, 3);
        due("hands(4): too short, then no hands", x.hands(4), PLACE);
    }

    private static void nullIsAMissingRow() {
        FistTrains x = busy();
        due("set", x.set(3, 0, 0), -1000011);
        due("copy from", x.copy(3, 0, 0, 0, 1), -1000011);
        due("copy to", x.copy(0, 0, 3, 0, 1), -1000011);
        due("drop", x.drop(3), -1000011);
        due("hands", x.hands(3), -1000011);
        due("status", x.status(), 1);
        due("an empty ROW is not missing", x.copy(7, 0, 7, 0, 0), 0);
    }

    private static void placeOfARow() {
        FistTrains x = busy();
        due("set", x.set(0, 5, 0), -1000012);
        due("status", x.status(), 2);
        due("set ahead", x.set(0, -1, 0), -1000012);
        due("set in none", x.set(7, 0, 0), -1000012);
        due("copy", x.copy(0, 5, 0, 0, 1), -1000012);
        x.drop(3);
        due("hands", x.hands(7), -1000012);
        due("status", x.status(), 2);
    }

    private static void kindOfAPlayer() {
        FistTrains x = busy();
        due("as(0, 5)", x.as(0, 5), -1000013);
        due("status", x.status(), 3);
    }

    private static void sizeFewerThanNone() {
        FistTrains x = busy();
        due("row(0, 0, -1)", x.row(0, 0, -1), -1000014);
        due("status", x.status(), 4);
        due("row(0, 0, LEAST)", x.row(0, 0, LEAST), -1000014);
        due("none is not fewer", x.row(0, 0, 0), 0);
    }

    private static void storeOfTwoLanes() {
        FistTrains x = busy();
        for (int a = 0; a < 3; a++) {
            for (int b = 0; b < 3; b++) {
                due("copy(" + a + ", 0, " + b + ", 0, 0)", x.copy(a, 0, b, 0, 0), a == b ? 0 : -1000015);
                due("status", x.status(), a == b ? 0 : 5);
            }
        }
    }

    private static void refusedChangesNothing() {
        refused("row(8, 0, 1)", BAD, x -> x.row(8, 0, 1));
        refused("row(0, 0, -1)", SIZE, x -> x.row(0, 0, -1));
        refused("set(0, 5, 2)", PLACE, x -> x.set(0, 5, 2));
        refused("copy(0, 0, 0, 4, 2)", PLACE, x -> x.copy(0, 0, 0, 4, 2));
        refused("copy(0, 0, 1, 0, 5)", STORE, x -> x.copy(0, 0, 1, 0, 5));
        refused("drop(3)", NULL, x -> x.drop(3));
        refused("feed(1, 9)", BAD, x -> x.feed(1, 9));
        refused("bout(0, 1)", STATE, x -> x.bout(0, 1));
        refused("hand(0, 3)", BAD, x -> x.hand(0, 3));
        refused("hands(3)", NULL, x -> x.hands(3));
        refused("hands(7)", PLACE, x -> x.hands(7));
        refused("restore(1)", STATE, x -> x.restore(1));
        refused("as(0, 5)", KIND, x -> x.as(0, 5));
        refused("ask(0, 2)", BAD, x -> x.ask(0, 2));
        refused(Sentences::withoutHall, "round()", STATE, FistTrains::round);
        refused(Sentences::withoutHall, "undo()", STATE, FistTrains::undo);
        refused(Sentences::withoutHall, "image(0)", STATE, x -> x.image(0));
    }

    private static void foundChangesStatus() {
        FistTrains x = busy();
        due("status", x.status(), 2);
        x.as(0, 5);
        due("status behind KIND", x.status(), 3);
        x.hands(3);
        due("status behind NULL", x.status(), 1);
        x.drop(9);
        x.bout(0, 1);
        due("status behind BAD and STATE", x.status(), 1);
    }

    // ---- rows

    private static void rows() {
        sentence("ROWS 0 .. 7 are missing (at first)", TextTermsTest::rowsAreMissing);
        sentence("or have a LANE (0 bytes, 1 shorts, 2 ints)", TextTermsTest::lanes);
        sentence("and 0 to 40 ITEMS", TextTermsTest::itemsOfRows);
        sentence("0 at first.", TextTermsTest::itemsAreZero);
    }

    private static void rowsAreMissing() {
        for (int row = 0; row < 8; row++) {
            FistTrains x = hallOf("boy0");
            due("hands(" + row + ")", x.hands(row), NULL);
            due("set(" + row + ", 0, 0)", x.set(row, 0, 0), NULL);
            due("copy(" + row + ", ..)", x.copy(row, 0, row, 0, 0), NULL);
            due("drop(" + row + ")", x.drop(row), NULL);
            due("count(0)", x.count(0), 0);
            due("row(" + row + ", 0, 1)", x.row(row, 0, 1), 1);
            due("count(0)", x.count(0), 1);
        }
        due("drop(8), no ROW", new FistTrains().drop(8), BAD);
        due("drop(-1), no ROW", new FistTrains().drop(-1), BAD);
    }

    private static void lanes() {
        FistTrains x = new FistTrains();
        x.row(0, 0, 1);
        x.row(1, 1, 1);
        x.row(2, 2, 1);
        due("the most of bytes", x.set(0, 0, 127), 127);
        due("one more", x.set(0, 0, 128), -128);
        due("the most of shorts", x.set(1, 0, 32767), 32767);
        due("one more", x.set(1, 0, 32768), -32768);
        due("the most of ints", x.set(2, 0, MOST), MOST);
        due("the least of ints", x.set(2, 0, LEAST), LEAST);
        due("no LANE", x.row(3, 3, 1), BAD);
        due("no LANE", x.row(3, -1, 1), BAD);
    }

    private static void itemsOfRows() {
        FistTrains x = new FistTrains();
        for (int lane = 0; lane < 3; lane++) {
            due("row(0, lane, 0)", x.row(0, lane, 0), 0);
            due("the first of none", x.set(0, 0, 1), PLACE);
            due("row(7, lane, 40)", x.row(7, lane, 40), 40);
            due("the 40th", x.set(7, 39, 1), 1);
            due("the 41st", x.set(7, 40, 1), PLACE);
            due("row(7, lane, 41)", x.row(7, lane, 41), BAD);
        }
    }

    /** Items are seen as hands alone: all forty of a row come to the first eight, eight by eight. */
    private static void itemsAreZero() {
        for (int lane = 0; lane < 3; lane++) {
            FistTrains x = hallOf("boy1 boy1 boy1 boy1 boy1 boy1 boy1 boy1");
            x.row(3, lane, 40);
            due("hands of a new ROW", x.hands(3), 8);
            x.undo();
            for (int i = 0; i < 40; i++) {
                x.set(3, i, 2);
            }
            x.row(3, lane, 40);
            x.row(4, lane, 8);
            for (int from = 0; from < 40; from += 8) {
                x.copy(3, from, 4, 0, 8);
                due("items from " + from + " on, another than paper", x.hands(4), 8);
                due("hands", hands(x), "00000000");
                x.undo();
            }
        }
    }

    // ---- texts

    private static void texts() {
        sentence("TEXTS: THE TAPE has at most 200 bytes;", TextTermsTest::tapeHasRoom);
        sentence("TOKENS: NAMES (letters a to z)", TextTermsTest::names);
        sentence("NUMBERS (figures, 3 at most)", TextTermsTest::numbers);
        sentence("SIGNS ;", TextTermsTest::signs);
        sentence("bytes 32 and 10", TextTermsTest::blanks);
        sentence("ahead of, between, behind these, as many as wanted", TextTermsTest::manyBlanks);
        sentence("(none is needed where one ends without)", TextTermsTest::noBlanks);
        sentence("hall: player { player }.", TextTermsTest::onePlayerOrMore);
        sentence("player: 'player' SORT HAND ';'", TextTermsTest::playerInOrder);
        sentence("(SORT: 'boy' | 'steady' | 'teacher' | 'mirror' | 'spy';", TextTermsTest::sorts);
        sentence("0 to 2;", TextTermsTest::handsOfTexts);
        sentence("PLAYERS 0 .. 7, 8 at most).", TextTermsTest::eightPlayers);
        sentence("A HALL that is read stands in place of the one before", TextTermsTest::hallInPlace);
        sentence("(none at first):", TextTermsTest::noHallAtFirst);
        sentence("each LEADS a TRAIN of himself alone;", TextTermsTest::eachLeads);
        sentence("ROUND 0, TIME 0;", TextTermsTest::roundAndTime);
        sentence("no ACT can be undone;", TextTermsTest::noActs);
        sentence("IMAGES and ROWS stay.", TextTermsTest::imagesAndRowsStay);
    }

    private static final String TEXT = "player boy 0;";

    private static void reads(String text, int players) {
        FistTrains x = new FistTrains();
        due("hall of '" + text + "'", read(x, text), players);
        due("fault of '" + text + "'", x.fault(), 0);
    }

    private static void faultDue(String text, int number, int place) {
        FistTrains x = new FistTrains();
        due("hall of '" + text + "'", read(x, text), FAULTY - place);
        due("fault of '" + text + "'", x.fault(), number);
    }

    private static void tapeHasRoom() {
        FistTrains x = new FistTrains();
        for (int bytes = 8; bytes <= 192; bytes += 8) {
            due("feed", x.feed(0, 8), bytes);
        }
        due("feed, 199", x.feed(0, 7), 199);
        due("feed, 201", x.feed(0, 2), FULL);
        due("feed, 200", x.feed(0, 1), 200);
        due("feed, 201", x.feed(0, 1), FULL);
        due("feed, 208", x.feed(0, 8), FULL);
        due("count(6)", x.count(6), 200);
        FistTrains y = new FistTrains();
        feed(y, " ".repeat(200 - TEXT.length()) + TEXT);
        due("all 200 are read", y.hall(), 1);
        FistTrains z = new FistTrains();
        feed(z, TEXT + " ".repeat(199 - TEXT.length()) + "x");
        due("the 200th is read", z.hall(), FAULTY - 199);
    }

    private static void names() {
        faultDue("player`boy 0;", 1, 6);
        faultDue("player{boy 0;", 1, 6);
        faultDue("Player boy 0;", 1, 0);
        faultDue("PLAYER boy 0;", 1, 0);
        faultDue("player Boy 0;", 1, 7);
        faultDue("playerZ boy 0;", 1, 6);
        faultDue("playera boy 0;", 1, 0);
        faultDue("playerz boy 0;", 1, 0);
        faultDue("player boyz 0;", 1, 7);
        faultDue("player_boy 0;", 1, 6);
        faultDue("player " + (char) 225 + "boy 0;", 1, 7);
        faultDue("player boyplayerboyplayer 0;", 1, 7);
    }

    private static void numbers() {
        reads("player boy 2;", 1);
        reads("player boy 02;", 1);
        reads("player boy 002;", 1);
        faultDue("player boy 0002;", 1, 11);
        faultDue("player boy 0000;", 1, 11);
        faultDue("player boy /;", 1, 11);
        faultDue("player boy :;", 1, 11);
        faultDue("player boy 2/;", 1, 12);
        faultDue("player boy 2:;", 1, 12);
        faultDue("player boy 9;", 2, 11);
        faultDue("player boy 999;", 2, 11);
    }

    private static void signs() {
        for (int sign = 0; sign < 256; sign++) {
            boolean ends = sign == ';' || sign == 32 || sign == 10;
            String text = "player boy 0" + (char) sign;
            if (sign == ';') {
                reads(text, 1);
            } else if (sign >= '0' && sign <= '2') {
                reads(text + ";", 1);
            } else if (sign > '2' && sign <= '9') {
                faultDue(text + ";", 2, 11);
            } else {
                faultDue(text + "!", 1, ends ? 13 : 12);
            }
        }
    }

    private static void blanks() {
        reads(" player\nboy 0\n; ", 1);
        for (int blank = 0; blank < 48; blank++) {
            String text = "player" + (char) blank + "boy 0;";
            if (blank == 32 || blank == 10) {
                reads(text, 1);
            } else {
                faultDue(text, 1, 6);
            }
        }
        faultDue("player" + (char) 160 + "boy 0;", 1, 6);
        faultDue("player" + (char) 133 + "boy 0;", 1, 6);
        faultDue((char) 9 + TEXT, 1, 0);
        faultDue(TEXT + (char) 13, 1, 13);
    }

    private static void manyBlanks() {
        String many = " \n\n  \n ".repeat(4);
        reads(many + TEXT, 1);
        reads("player" + many + "boy 0;", 1);
        reads("player boy" + many + "0;", 1);
        reads("player boy 0" + many + ";", 1);
        reads("player boy 0;" + many + "player spy 2;", 2);
        reads(TEXT + many, 1);
        reads("\n" + TEXT, 1);
        reads(TEXT + "\n", 1);
    }

    private static void noBlanks() {
        reads("player boy0;player spy2;player mirror1;", 3);
        faultDue("playerboy0;", 1, 0);
        faultDue("player boy0player spy2;", 1, 11);
        faultDue("0;", 1, 0);
    }

    private static void onePlayerOrMore() {
        faultDue("", 1, 0);
        faultDue(" \n ", 1, 3);
        reads(TEXT, 1);
        reads(TEXT + TEXT, 2);
        faultDue(TEXT + "x", 1, 13);
        faultDue(TEXT + ";", 1, 13);
        faultDue(TEXT + " 0", 1, 14);
        faultDue(TEXT + "boy 0;", 1, 13);
    }

    private static void playerInOrder() {
        faultDue("boy 0;", 1, 0);
        faultDue("player 0;", 1, 7);
        faultDue("player boy;", 1, 10);
        faultDue("player boy 0", 1, 12);
        faultDue("player 0 boy;", 1, 7);
        faultDue("player boy ; 0", 1, 11);
        faultDue("; player boy 0", 1, 0);
        faultDue("player player boy 0;", 1, 7);
        faultDue("player boy boy 0;", 1, 11);
        faultDue("player boy 0 0;", 1, 13);
        faultDue("player boy 0 ;;", 1, 14);
        for (String other : almost("player")) {
            faultDue(other + " boy 0;", 1, 0);
        }
    }

    private static void sorts() {
        for (int kind = 1; kind <= 5; kind++) {
            for (int hand = 0; hand < 3; hand++) {
                FistTrains x = new FistTrains();
                due("hall", read(x, "player " + SORTS[kind] + " " + hand + ";"), 1);
                due("kind of " + SORTS[kind], x.kind(0), kind);
                due("hand of " + SORTS[kind], x.player(0, 0), hand);
            }
            faultDue("player " + SORTS[kind] + "s 0;", 1, 7);
            faultDue("player " + SORTS[kind].substring(1) + " 0;", 1, 7);
            faultDue("player " + SORTS[kind].substring(0, SORTS[kind].length() - 1) + " 0;", 1, 7);
        }
        faultDue("player player 0;", 1, 7);
        faultDue("player girl 0;", 1, 7);
        for (int kind = 1; kind <= 5; kind++) {
            for (String other : almost(SORTS[kind])) {
                faultDue("player " + other + " 0;", 1, 7);
            }
        }
    }

    /** Words in which one letter is the one ahead of it, or behind it. */
    private static String[] almost(String word) {
        String[] words = new String[2 * word.length()];
        for (int i = 0; i < word.length(); i++) {
            String ahead = word.substring(0, i);
            String behind = word.substring(i + 1);
            words[2 * i] = ahead + (char) (word.charAt(i) - 1) + behind;
            words[2 * i + 1] = ahead + (char) (word.charAt(i) + 1) + behind;
        }
        return words;
    }

    private static void handsOfTexts() {
        due("hands", hands(hallOf("boy0 boy1 boy2")), "012");
        for (int hand = 3; hand <= 999; hand = hand * 10 + 9) {
            faultDue("player boy " + hand + ";", 2, 11);
        }
        faultDue("player boy 10;", 2, 11);
        faultDue("player boy 100;", 2, 11);
        faultDue("player boy 003;", 2, 11);
        faultDue("player boy -1;", 1, 11);
    }

    private static void eightPlayers() {
        FistTrains x = new FistTrains();
        due("hall of 8", read(x, TEXT.repeat(7) + "player spy 2;"), 8);
        due("kind(7)", x.kind(7), 5);
        due("hand of 7", x.player(7, 0), 2);
        due("kind(8)", x.kind(8), BAD);
        due("hall of 9", read(x, TEXT.repeat(9)), FAULTY - 104);
        due("the 8 stay", x.count(1), 8);
    }

    private static void hallInPlace() {
        FistTrains x = hallOf("boy0 boy1 boy2 spy0 spy1 mirror0 mirror1 teacher0");
        due("hall", read(x, textOf("steady2 teacher1")), 2);
        due("count(1)", x.count(1), 2);
        due("hands", hands(x), "21");
        due("kind(0)", x.kind(0), 2);
        due("kind(1)", x.kind(1), 3);
        due("kind(2)", x.kind(2), BAD);
        due("left(0)", x.left(0), 0);
        due("hall", read(x, textOf("spy1 spy2 spy0")), 3);
        due("hands", hands(x), "120");
        String[] halls = {"steady1 steady1 steady0", "boy1", "mirror0 boy0 boy2 steady2"};
        for (String players : halls) {
            FistTrains y = hallOf("boy0 boy1 boy2 spy0 spy1 mirror0 mirror1 teacher0");
            y.round();
            y.left(0);
            read(y, textOf(players));
            due("all that is foretold of " + players, foretells(y), foretells(hallOf(players)));
        }
    }

    private static void noHallAtFirst() {
        FistTrains x = new FistTrains();
        due("count(1)", x.count(1), 0);
        due("count(2)", x.count(2), 0);
        due("round()", x.round(), STATE);
        due("left(0)", x.left(0), STATE);
        due("image(0)", x.image(0), STATE);
        due("kind(0)", x.kind(0), BAD);
    }

    private static void eachLeads() {
        FistTrains x = hallOf("boy0 boy0 boy0");
        x.round();
        x.round();
        read(x, textOf("boy0 boy1 boy2 boy0 boy1 boy2 boy0 boy1"));
        due("leaders", leaders(x), "01234567");
        due("trains", trains(x), "11111111");
        due("count(2)", x.count(2), 8);
    }

    private static void roundAndTime() {
        FistTrains x = hallOf("boy0 boy0 boy0");
        x.round();
        due("count(3)", x.count(3), 1);
        due("count(4)", x.count(4), 9);
        x.left(0);
        read(x, TEXT + TEXT);
        due("count(3) of a new HALL", x.count(3), 0);
        due("count(4) of a new HALL", x.count(4), 0);
    }

    private static void noActs() {
        FistTrains x = hallOf("boy0 boy0 boy0");
        x.round();
        x.hand(0, 1);
        read(x, TEXT + TEXT);
        due("count(5)", x.count(5), 0);
        due("undo()", x.undo(), STATE);
        due("count(1)", x.count(1), 2);
    }

    private static void imagesAndRowsStay() {
        FistTrains x = hallOf("boy0 spy2");
        x.image(0);
        x.hand(0, 1);
        x.image(1);
        rowOf(x, 2, 1, 2, 1);
        rowOf(x, 5, 0, 0, 0);
        read(x, textOf("steady0 steady0"));
        due("count(0)", x.count(0), 2);
        due("hands(2)", x.hands(2), 2);
        due("hands", hands(x), "21");
        due("restore(0)", x.restore(0), 1);
        due("hands", hands(x), "02");
        due("kind(1)", x.kind(1), 5);
        due("restore(1)", x.restore(1), 1);
        due("hands", hands(x), "12");
    }

    // ---- faults

    private static void faults() {
        sentence("FAULTS, the first TOKEN that has one", TextTermsTest::firstFault);
        sentence("(its first byte)", TextTermsTest::firstByte);
        sentence("of one TOKEN the least:", TextTermsTest::leastFault);
        sentence("1 it cannot stand there", TextTermsTest::cannotStand);
        sentence("or is none", TextTermsTest::isNone);
        sentence("(a run of four figures or more, at its first;", TextTermsTest::runOfFigures);
        sentence("the end: how many bytes there are);", TextTermsTest::theEnd);
        sentence("2 a NUMBER that is not as told;", TextTermsTest::numberWrong);
        sentence("3 a player more than there is room for (its word).", TextTermsTest::playerTooMany);
    }

    private static void firstFault() {
        faultDue("player boy 3 boy", 2, 11);
        faultDue("player boy 3 !", 2, 11);
        faultDue("player boy 0; ! player boy 7;", 1, 14);
        faultDue("player boy 7; ! player boy 0;", 2, 11);
        faultDue("! player boy 7;", 1, 0);
        faultDue(TEXT.repeat(7) + "player boy 3;player", 2, 102);
        faultDue(TEXT.repeat(8) + "player boy 3;", 3, 104);
    }

    private static void firstByte() {
        faultDue("   boy 0;", 1, 3);
        faultDue("player   teachers 0;", 1, 9);
        faultDue("player boy  345;", 2, 12);
        faultDue("player boy \n 12345;", 1, 13);
        faultDue("player boy 0  player", 1, 14);
        faultDue("player boy 0;\n  spy", 1, 16);
        faultDue(TEXT.repeat(8) + "  player", 3, 106);
    }

    private static void leastFault() {
        faultDue("player 9 0;", 1, 7);
        faultDue("9;", 1, 0);
        faultDue("player boy 9999;", 1, 11);
        faultDue("player boy 0 9;", 1, 13);
        faultDue("player boy 0; 7", 1, 14);
        faultDue(TEXT.repeat(8) + "9", 1, 104);
        faultDue(TEXT.repeat(8) + "boy", 1, 104);
    }

    private static void cannotStand() {
        faultDue("spy", 1, 0);
        faultDue(";", 1, 0);
        faultDue("0", 1, 0);
        faultDue("player ;", 1, 7);
        faultDue("player 2", 1, 7);
        faultDue("player player", 1, 7);
        faultDue("player spy ;", 1, 11);
        faultDue("player spy spy", 1, 11);
        faultDue("player spy 2 2", 1, 13);
        faultDue("player spy 2 spy", 1, 13);
        faultDue("player spy 2; spy", 1, 14);
        faultDue("player spy 2; 2", 1, 14);
        faultDue("player spy 2; ;", 1, 14);
    }

    private static void isNone() {
        String[] none = {"!", ",", "-", "'", "{", "}", ".", "A", "_", "/", ":", "`", String.valueOf((char) 0),
            String.valueOf((char) 127), String.valueOf((char) 255)};
        for (String sign : none) {
            faultDue(sign + TEXT, 1, 0);
            faultDue("player " + sign + " 0;", 1, 7);
            faultDue("player boy " + sign + "0;", 1, 11);
            faultDue("player boy 0" + sign + ";", 1, 12);
            faultDue(TEXT + sign, 1, 13);
        }
    }

    private static void runOfFigures() {
        reads("player boy 001;", 1);
        faultDue("player boy 0001;", 1, 11);
        faultDue("player boy 00000;", 1, 11);
        faultDue("player boy 1234;", 1, 11);
        faultDue("player boy 4294967296;", 1, 11);
        faultDue("player boy " + "0".repeat(180), 1, 11);
        faultDue("1234", 1, 0);
    }

    private static void theEnd() {
        faultDue("", 1, 0);
        faultDue(" ", 1, 1);
        faultDue("player", 1, 6);
        faultDue("player\n", 1, 7);
        faultDue("player boy", 1, 10);
        faultDue("player boy  ", 1, 12);
        faultDue("player boy 2", 1, 12);
        faultDue("player boy 2   ", 1, 15);
        faultDue(TEXT + "player", 1, 19);
        faultDue(" ".repeat(200), 1, 200);
        faultDue("player boy 0" + " ".repeat(188), 1, 200);
    }

    private static void numberWrong() {
        reads("player boy 2;", 1);
        faultDue("player boy 3;", 2, 11);
        faultDue("player boy 3", 2, 11);
        faultDue("player boy 10;", 2, 11);
        faultDue("player boy 256;", 2, 11);
        faultDue("player boy 999;", 2, 11);
        faultDue(TEXT + "player spy 4;", 2, 24);
    }

    private static void playerTooMany() {
        String eight = "player spy 1;".repeat(8);
        reads(eight, 8);
        faultDue(eight + "player", 3, 104);
        faultDue(eight + "player spy 1;", 3, 104);
        faultDue(eight + " player spy 9;", 3, 105);
        faultDue(eight + "player 7;", 3, 104);
        faultDue(eight + "players", 1, 104);
    }
}
