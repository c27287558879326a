import java.io.IOException;
import java.util.regex.Pattern;

/** The third and the fourth part of 'Terms', sentence by sentence: what is foretold, kinds, asks. */
public final class ForetoldTermsTest extends Sentences {
    public static void main(String[] args) throws IOException {
        section("Terms 3");
        foretelling();
        fewestAndOdds();
        kinds();
        section("Terms 4");
        asks();
        runAll(Pattern.compile("Terms [34]"));
    }

    // ---- foretold

    private static void foretelling() {
        sentence("FORETOLD (nothing changes).", ForetoldTermsTest::nothingChanges);
        sentence("LEFT: by ROUNDS, till one LEADS alone: who;", ForetoldTermsTest::whoIsLeft);
        sentence("how many ROUNDS, how much TIME (both from now on).", ForetoldTermsTest::roundsAndTimeFromNow);
        sentence("LONGEST behind n ROUNDS (0 to 9): the size of the longest TRAIN;",
            ForetoldTermsTest::longestBehindRounds);
        sentence("who LEADS it, of several the first.", ForetoldTermsTest::firstOfTheLongest);
        sentence("BEGIN of one who LEADS: the HAND (in place of his now) by which, by ROUNDS, he LEADS longest",
            ForetoldTermsTest::beginLongest);
        sentence("(by how many ROUNDS; to be LEFT is longest)", ForetoldTermsTest::beginToBeLeft);
        sentence("all others as they are;", ForetoldTermsTest::othersAsTheyAre);
        sentence("of several the least. SEEK", ForetoldTermsTest::leastBeginning);
        sentence("SEEK of one who LEADS: all others who LEAD (bits) with whom he may have a BOUT now",
            ForetoldTermsTest::othersWhoLead);
        sentence("by which, and then by ROUNDS, he is LEFT.", ForetoldTermsTest::leftBehindTheBout);
    }

    private static void nothingChanges() {
        foretold(Sentences::busy, "beats(0, 3, 0)", 3, x -> x.beats(0, 3, 0));
        foretold(Sentences::busy, "beats(3, 0, 1)", 1, x -> x.beats(3, 0, 1));
        foretold(Sentences::busy, "left(0)", 3, x -> x.left(0));
        foretold(Sentences::busy, "left(1)", 1, x -> x.left(1));
        foretold(Sentences::busy, "left(2)", 1, x -> x.left(2));
        foretold(Sentences::busy, "longest(0, 0)", 3, x -> x.longest(0, 0));
        foretold(Sentences::busy, "longest(9, 1)", 3, x -> x.longest(9, 1));
        foretold(Sentences::busy, "begin(0)", 0, x -> x.begin(0));
        foretold(Sentences::busy, "seek(3)", 1, x -> x.seek(3));
        foretold(Sentences::busy, "fewest(0, -1)", NONE, x -> x.fewest(0, -1));
        foretold(Sentences::busy, "fewest(3, 4)", 1, x -> x.fewest(3, 4));
        foretold(Sentences::busy, "begun(0, 3)", 7, x -> x.begun(0, 3));
        foretold(Sentences::busy, "odds(0, 3, 3, 3, 1)", 2, x -> x.odds(0, 3, 3, 3, 1));
        foretold(Sentences::busy, "gain(3, 3, 3)", 0, x -> x.gain(3, 3, 3));
        for (int what = 0; what < 3; what++) {
            FistTrains x = hallOf("boy0 boy1 teacher1 mirror0 spy1 steady2 boy2");
            String before = seen(x);
            x.left(what);
            due("seen behind left", seen(x), before);
            x.longest(2, what % 2);
            due("seen behind longest", seen(x), before);
            x.begin(what);
            due("seen behind begin", seen(x), before);
            x.seek(what);
            due("seen behind seek", seen(x), before);
            x.fewest(what, 6 - what);
            due("seen behind fewest", seen(x), before);
            x.begun(what, 6);
            due("seen behind begun", seen(x), before);
        }
    }

    private static void leftDue(FistTrains x, int who, int rounds, int time) {
        due("left(0)", x.left(0), who);
        due("left(1)", x.left(1), rounds);
        due("left(2)", x.left(2), time);
    }

    private static void whoIsLeft() {
        leftDue(hallOf("boy0"), 0, 0, 0);
        leftDue(hallOf("steady0 steady1"), 1, 1, 1);
        leftDue(hallOf("steady0 steady1 steady2"), 2, 2, 2);
        leftDue(hallOf("steady0 steady1 steady2 steady0 steady1 steady2 steady0 steady1"), 5, 3, 3);
        leftDue(hallOf("boy0 boy1 boy2 boy0 boy1 boy2 boy0 spy0"), 7, 3, 3);
        FistTrains x = hallOf("steady0 steady1 boy0 boy0 steady2");
        int who = x.left(0);
        for (int i = 0; i < 3; i++) {
            x.round();
        }
        due("count(2) behind the rounds", x.count(2), 1);
        due("who leads behind the rounds", x.player(0, 1), who);
    }

    private static void roundsAndTimeFromNow() {
        FistTrains x = hallOf("steady0 steady1 boy0 boy0 steady2");
        leftDue(x, 2, 3, 9 + 1 + 2);
        x.round();
        leftDue(x, 2, 2, 1 + 2);
        x.round();
        leftDue(x, 2, 1, 2);
        x.round();
        leftDue(x, 2, 0, 0);
        FistTrains y = hallOf("steady0 steady0 steady1");
        y.bout(0, 1);
        leftDue(y, 2, 1, 1);
    }

    private static void longestDue(FistTrains x, int n, int size, int who) {
        due("longest(" + n + ", 0)", x.longest(n, 0), size);
        due("longest(" + n + ", 1)", x.longest(n, 1), who);
    }

    private static void longestBehindRounds() {
        FistTrains x = hallOf("steady0 steady1 steady2 steady0 steady1 steady2 steady0 steady1");
        longestDue(x, 0, 1, 0);
        longestDue(x, 1, 2, 1);
        longestDue(x, 2, 4, 1);
        longestDue(x, 3, 8, 5);
        longestDue(x, 4, 8, 5);
        longestDue(x, 9, 8, 5);
        due("longest(10, 0)", x.longest(10, 0), BAD);
        due("longest(-1, 0)", x.longest(-1, 0), BAD);
        longestDue(hallOf("boy0"), 0, 1, 0);
        longestDue(hallOf("boy0"), 9, 1, 0);
        FistTrains y = hallOf("steady0 steady0 steady1 steady1");
        y.bout(0, 2);
        longestDue(y, 0, 2, 2);
        y.bout(1, 2);
        longestDue(y, 0, 3, 2);
    }

    private static void firstOfTheLongest() {
        FistTrains x = hallOf("steady0 steady1 steady1 steady0 steady0");
        longestDue(x, 0, 1, 0);
        longestDue(x, 1, 2, 1);
        x.bout(2, 4);
        longestDue(x, 0, 2, 2);
        x.bout(0, 1);
        longestDue(x, 0, 2, 1);
        FistTrains y = hallOf("steady1 steady0 steady2 steady1 steady0");
        longestDue(y, 1, 2, 0);
    }

    private static void beginLongest() {
        FistTrains x = hallOf("steady0 steady1 steady0 steady2");
        due("begin(3), two rounds by paper", x.begin(3), 1);
        FistTrains y = hallOf("steady0 steady0 spy1 spy2");
        due("begin(1), one round by paper", y.begin(1), 1);
        y.hand(1, 2);
        due("begin(1), in place of his now", y.begin(1), 1);
        FistTrains z = hallOf("steady2 steady0 steady1");
        due("begin(0), to be left by paper, one round by stone", z.begin(0), 1);
    }

    private static void beginToBeLeft() {
        FistTrains w = hallOf("steady0 steady0 steady1 steady1 spy0 boy0 boy0 boy0");
        due("begin(0): two rounds by paper, one by stone, none by scissors", w.begin(0), 1);
        FistTrains x = hallOf("steady0 steady2");
        due("begin(1): to be left by paper", x.begin(1), 1);
        FistTrains y = hallOf("steady1 steady0 steady2");
        due("begin(2): waits, then stone", y.begin(2), 2);
        FistTrains z = hallOf("steady0 steady2 steady1 steady1");
        due("begin(0): left by scissors, one round by stone", z.begin(0), 2);
        due("begin(0), alone", hallOf("boy2").begin(0), 0);
    }

    private static void othersAsTheyAre() {
        FistTrains x = hallOf("steady0 steady2");
        due("begin(1) against stone", x.begin(1), 1);
        x.hand(0, 1);
        due("begin(1) against paper", x.begin(1), 2);
        x.hand(0, 2);
        due("begin(1) against scissors", x.begin(1), 0);
        due("his hand, as it was", x.player(1, 0), 2);
    }

    private static void leastBeginning() {
        due("stone by a tie, paper by a throw", hallOf("steady2 steady0").begin(0), 0);
        due("by none, against a spy", hallOf("boy2 spy0").begin(0), 0);
        due("by each, for a spy", hallOf("spy2 boy0").begin(0), 0);
        due("paper by a tie, scissors by a throw", hallOf("steady1 steady1").begin(0), 1);
        due("stone by a throw, scissors by a tie", hallOf("steady2 steady2").begin(0), 0);
    }

    private static void othersWhoLead() {
        FistTrains x = hallOf("spy0 boy0 boy1 boy2");
        due("seek(0)", x.seek(0), 14);
        x.bout(1, 2);
        due("seek(0), 1 leads no more", x.seek(0), 12);
        due("seek(1)", x.seek(1), STATE);
        x.bout(0, 2);
        due("seek(0)", x.seek(0), 8);
        x.bout(0, 3);
        due("seek(0), alone", x.seek(0), 0);
        due("seek(0), of one", hallOf("spy0").seek(0), 0);
    }

    private static void leftBehindTheBout() {
        FistTrains x = hallOf("steady0 steady2 steady2");
        due("seek(0)", x.seek(0), 6);
        due("seek(1)", x.seek(1), 0);
        FistTrains y = hallOf("steady2 steady1 steady0 steady2");
        due("seek(2), 0 or 3 whom he beats, 0 loses to 1 else", y.seek(2), 8);
        FistTrains z = hallOf("steady0 steady2 steady1");
        due("seek(0), a bout is won, then a round lost", z.seek(0), 0);
        FistTrains w = hallOf("steady2 steady0 steady2");
        due("seek(1), by the bout and a round", w.seek(1), 5);
    }

    // ---- fewest, begun, odds

    private static void fewestAndOdds() {
        sentence("FEWEST for one who LEADS: the fewest PLAYERS who LEAD that must have another HAND now, so that he is"
            + " LEFT: how many;", ForetoldTermsTest::fewestPlayers);
        sentence("the HAND of one then", ForetoldTermsTest::handOfOne);
        sentence("of several ways that whose row of HANDS of all PLAYERS is the first (PLAYER by PLAYER, the least HAND"
            + " first);", ForetoldTermsTest::firstRowOfHands);
        sentence("NONE. BEGUN:", ForetoldTermsTest::noWay);
        sentence("BEGUN: HANDS (bits), each of which one who LEADS may have in place of his now, so that a told one who"
            + " LEADS is LEFT.", ForetoldTermsTest::handsToBegin);
        sentence("ODDS of a HAND against one who plays stone, paper, scissors by A, B, C of 9",
            ForetoldTermsTest::oddsOfHands);
        sentence("(0 to 9, 9 together;", ForetoldTermsTest::nineTogether);
        sentence("ties are played again): to win: a fraction;", ForetoldTermsTest::tiesArePlayedAgain);
        sentence("NONE: there would be ties alone.", ForetoldTermsTest::tiesAlone);
        sentence("GAIN: the HAND whose odds are greatest", ForetoldTermsTest::greatestOdds);
        sentence("of several the least; NONE.", ForetoldTermsTest::leastOfTheGreatest);
    }

    private static void fewestPlayers() {
        due("none", hallOf("steady1 steady1").fewest(0, -1), 0);
        due("one", hallOf("steady1 steady1").fewest(1, -1), 1);
        due("alone", hallOf("steady1").fewest(0, -1), 0);
        due("none, with a round more", hallOf("steady0 steady1 steady1 steady2").fewest(3, -1), 0);
        due("two", hallOf("steady1 steady1 steady1 steady0").fewest(2, -1), 2);
        due("three", hallOf("steady1 steady1 steady0 steady0 boy0").fewest(3, -1), 3);
        FistTrains x = hallOf("steady1 steady1 steady1 steady1 steady1 steady1 steady1 steady1");
        due("the last of eight alike", x.fewest(7, -1), 1);
        due("the third of eight alike", x.fewest(2, -1), 1);
        FistTrains y = hallOf("boy0 boy0 boy1 boy0");
        due("the first of four", y.fewest(0, -1), 0);
        y.hand(2, 0);
        due("the first of four alike", y.fewest(0, -1), 0);
        FistTrains z = hallOf("steady0 spy0 steady0");
        z.bout(1, 0);
        due("who does not lead is not to have another", z.fewest(2, -1), NONE);
    }

    private static void handOfOne() {
        FistTrains x = hallOf("steady1 steady1");
        due("fewest(1, 0)", x.fewest(1, 0), 0);
        due("fewest(1, 1)", x.fewest(1, 1), 1);
        due("fewest(0, 0), as it is", x.fewest(0, 0), 1);
        due("fewest(0, 1), as it is", x.fewest(0, 1), 1);
        FistTrains y = hallOf("steady2 steady0 steady0");
        y.bout(0, 1);
        due("of one who does not lead", y.fewest(2, 0), 2);
        due("of one who leads", y.fewest(2, 1), 0);
        due("of the told one", y.fewest(2, 2), 1);
    }

    private static String rowDue(FistTrains x, int player) {
        StringBuilder row = new StringBuilder();
        int players = x.count(1);
        for (int k = 0; k < players; k++) {
            row.append(x.fewest(player, k));
        }
        return row.toString();
    }

    private static void firstRowOfHands() {
        due("his own hand, or the other one's", rowDue(hallOf("steady1 steady1"), 1), "01");
        due("the first one's stays", rowDue(hallOf("steady0 steady0"), 1), "01");
        due("the least of one", rowDue(hallOf("steady2 steady2"), 1), "12");
        due("of four ways of one the first", rowDue(hallOf("boy1 steady2"), 0), "02");
        due("of ways of two the first", rowDue(hallOf("steady0 teacher0 mirror1"), 0), "022");
        due("of ways of two the first", rowDue(hallOf("steady1 steady1 steady1 steady0"), 2), "0010");
        due("of ways of three the first", rowDue(hallOf("steady1 steady1 steady0 steady0 boy0"), 3), "00010");
        FistTrains x = hallOf("steady0 steady0 steady0 steady0");
        x.bout(2, 3);
        due("beyond a train", rowDue(x, 1), "0100");
    }

    private static void noWay() {
        FistTrains x = hallOf("spy0 boy0 boy2");
        due("fewest(1, -1)", x.fewest(1, -1), NONE);
        due("fewest(1, 0)", x.fewest(1, 0), NONE);
        due("fewest(1, 1)", x.fewest(1, 1), NONE);
        due("fewest(2, 2)", x.fewest(2, 2), NONE);
        due("fewest(0, -1)", x.fewest(0, -1), 0);
        due("status", x.status(), 0);
    }

    private static void handsToBegin() {
        FistTrains x = hallOf("steady1 steady1 steady1");
        due("begun(0, 0)", x.begun(0, 0), 2 + 4);
        due("begun(0, 1)", x.begun(0, 1), 1);
        due("begun(0, 2)", x.begun(0, 2), 0);
        due("begun(2, 2)", x.begun(2, 2), 4);
        due("begun(2, 0)", x.begun(2, 0), 1 + 2);
        x.hand(2, 2);
        due("begun(2, 2), in place of his now", x.begun(2, 2), 4);
        FistTrains y = hallOf("boy1 spy0");
        due("all hands", y.begun(0, 1), 7);
        due("no hand", y.begun(0, 0), 0);
        due("alone", hallOf("boy1").begun(0, 0), 7);
    }

    private static void oddsDue(int hand, int a, int b, int c, int above, int below) {
        FistTrains x = new FistTrains();
        String call = "odds(" + hand + ", " + a + ", " + b + ", " + c + ", ";
        due(call + "0)", x.odds(hand, a, b, c, 0), above);
        due(call + "1)", x.odds(hand, a, b, c, 1), below);
    }

    private static void oddsOfHands() {
        oddsDue(0, 1, 6, 2, 1, 4);
        oddsDue(1, 1, 6, 2, 1, 3);
        oddsDue(2, 1, 6, 2, 6, 7);
        oddsDue(0, 0, 0, 9, 1, 1);
        oddsDue(1, 9, 0, 0, 1, 1);
        oddsDue(2, 0, 9, 0, 1, 1);
        oddsDue(0, 0, 9, 0, 0, 1);
        oddsDue(1, 0, 0, 9, 0, 1);
        oddsDue(2, 9, 0, 0, 0, 1);
    }

    private static void nineTogether() {
        FistTrains x = new FistTrains();
        due("9, 0, 0", x.odds(1, 9, 0, 0, 0), 1);
        due("0, 9, 0", x.odds(2, 0, 9, 0, 0), 1);
        due("0, 0, 9", x.odds(0, 0, 0, 9, 0), 1);
        due("8 together", x.odds(0, 3, 3, 2, 0), BAD);
        due("10 together", x.odds(0, 3, 3, 4, 0), BAD);
        due("-1, 5, 5", x.odds(0, -1, 5, 5, 0), BAD);
        due("5, -1, 5", x.odds(0, 5, -1, 5, 0), BAD);
        due("5, 5, -1", x.odds(0, 5, 5, -1, 0), BAD);
        due("10, 0, -1", x.odds(0, 10, 0, -1, 0), BAD);
        due("-1, 10, 0", x.odds(0, -1, 10, 0, 0), BAD);
        due("0, -1, 10", x.odds(0, 0, -1, 10, 0), BAD);
        due("9 by wrapping around", x.odds(0, LEAST, LEAST, 9, 0), BAD);
    }

    private static void tiesArePlayedAgain() {
        oddsDue(0, 7, 1, 1, 1, 2);
        oddsDue(1, 1, 7, 1, 1, 2);
        oddsDue(2, 1, 1, 7, 1, 2);
        oddsDue(0, 8, 0, 1, 1, 1);
        oddsDue(0, 8, 1, 0, 0, 1);
        oddsDue(0, 2, 3, 4, 4, 7);
    }

    private static void tiesAlone() {
        oddsDue(0, 9, 0, 0, NONE, NONE);
        oddsDue(1, 0, 9, 0, NONE, NONE);
        oddsDue(2, 0, 0, 9, NONE, NONE);
    }

    private static void greatestOdds() {
        FistTrains x = new FistTrains();
        due("against stone", x.gain(9, 0, 0), 1);
        due("against paper", x.gain(0, 9, 0), 2);
        due("against scissors", x.gain(0, 0, 9), 0);
        due("1 by 4, 1 by 3, 6 by 7", x.gain(1, 6, 2), 2);
        due("4 by 7, 2 by 6, 3 by 5", x.gain(2, 3, 4), 2);
        due("1 by 4, 5 by 6, 3 by 8", x.gain(5, 3, 1), 1);
        due("by odds, not by wins: 4 by 4, 5 by 9", x.gain(5, 0, 4), 0);
        due("by odds, not by wins: 5 by 9, 4 by 4", x.gain(4, 5, 0), 1);
    }

    private static void leastOfTheGreatest() {
        FistTrains x = new FistTrains();
        due("all alike", x.gain(3, 3, 3), 0);
        due("one alone", x.gain(4, 1, 4), 0);
        for (int a = 0; a <= 9; a++) {
            for (int b = 0; b <= 9 - a; b++) {
                due("never NONE: gain(" + a + ", " + b + ", " + (9 - a - b) + ")", x.gain(a, b, 9 - a - b) == NONE,
                    false);
            }
        }
    }

    // ---- kinds

    private static void kinds() {
        sentence("KINDS of PLAYERS: 0 PLAYER; 1 BOY, a PLAYER; 2 STEADY, a BOY; 3 TEACHER, a BOY; 4 MIRROR, a PLAYER; 5"
            + " SPY, a MIRROR one.", ForetoldTermsTest::whatIsWhat);
        sentence("By this it is asked.", ForetoldTermsTest::askedByKinds);
    }

    private static final String ALL_KINDS = "boy2 steady2 teacher2 mirror2 spy2";

    private static void askDue(FistTrains x, int player, int what, int answer, String bodies) {
        due("ask(" + player + ", " + what + ")", x.ask(player, what), answer);
        due("trace of ask(" + player + ", " + what + ")", trace(x), bodies);
    }

    private static void whatIsWhat() {
        FistTrains x = hallOf(ALL_KINDS);
        String[] are = {"01", "012", "013", "04", "045"};
        for (int p = 0; p < 5; p++) {
            for (int kind = 0; kind <= 5; kind++) {
                boolean is = are[p].indexOf('0' + kind) >= 0;
                due("as(" + p + ", " + kind + ")", x.as(p, kind), is ? p : KIND);
            }
        }
        due("as(0, 6)", x.as(0, 6), BAD);
        due("as(0, -1)", x.as(0, -1), BAD);
    }

    private static void askedByKinds() {
        FistTrains x = hallOf(ALL_KINDS);
        String[] sizes = {"11", "12", "11", "13", "14"};
        String[] marks = {"21", "24", "22", "23", "23"};
        for (int p = 0; p < 5; p++) {
            x.ask(p, 0);
            due("the first body of SIZE of " + p, trace(x).substring(0, 2), sizes[p]);
            x.ask(p, 1);
            due("the first body of MARK of " + p, trace(x).substring(0, 2), marks[p]);
        }
        x.as(4, 0);
        askDue(x, 4, 0, -198, "14 13 10");
    }

    // ---- asks

    private static void asks() {
        sentence("ASKS of PLAYERS, by BODIES, each of which leaves its number in THE TRACE as it begins",
            ForetoldTermsTest::bodiesLeaveNumbers);
        sentence("(the first 16):", ForetoldTermsTest::sixteenAtMost);
        sentence("0 SIZE: 10 lent to all PLAYERS: how many are in the TRAIN in which he is.",
            ForetoldTermsTest::lentSize);
        sentence("11 of BOYS: what 10 gives, and MARK.", ForetoldTermsTest::sizeOfBoys);
        sentence("12 of STEADY ones: 0 less what 11 gives.", ForetoldTermsTest::sizeOfSteady);
        sentence("13 of MIRRORS: what 10 gives, less 100.", ForetoldTermsTest::sizeOfMirrors);
        sentence("14 of SPIES: twice what 13 gives (asked once).", ForetoldTermsTest::sizeOfSpies);
        sentence("1 MARK: 20 lent to all PLAYERS: his number.", ForetoldTermsTest::lentMark);
        sentence("21 of BOYS: what 20 gives, and his HAND.", ForetoldTermsTest::markOfBoys);
        sentence("22 of TEACHERS: what 21 gives, less 1000.", ForetoldTermsTest::markOfTeachers);
        sentence("23 of MIRRORS: what 20 gives, less SIZE.", ForetoldTermsTest::markOfMirrors);
        sentence("24 of STEADY ones: twice what 21 gives (asked once).", ForetoldTermsTest::markOfSteady);
        sentence("(Of an ask the BODY told for the KIND begins, else that of the nearest KIND that it is, too, else the"
            + " one that is lent;", ForetoldTermsTest::nearestBody);
        sentence("SIZE, MARK within others are asked of the same PLAYER anew.)", ForetoldTermsTest::askedAnew);
    }

    private static void bodiesLeaveNumbers() {
        FistTrains x = hallOf(ALL_KINDS);
        due("trace(0) ahead of an ask", x.trace(0), NONE);
        askDue(x, 0, 0, 3, "11 10 21 20");
        askDue(x, 1, 0, -7, "12 11 10 24 21 20");
        askDue(x, 4, 1, 202, "23 20 14 13 10");
        askDue(x, 0, 1, 2, "21 20");
    }

    private static void sixteenAtMost() {
        FistTrains x = hallOf(ALL_KINDS);
        for (int p = 0; p < 5; p++) {
            for (int what = 0; what < 2; what++) {
                x.ask(p, what);
                x.ask(p, what);
                for (int i = 6; i <= 16; i++) {
                    due("trace(" + i + ")", x.trace(i), NONE);
                }
            }
        }
    }

    private static void lentSize() {
        FistTrains x = hallOf("mirror2 mirror1 mirror0 mirror0");
        due("SIZE of one", x.ask(0, 0) + 100, 1);
        x.bout(0, 1);
        due("SIZE of two", x.ask(0, 0) + 100, 2);
        due("SIZE of two, of him behind", x.ask(1, 0) + 100, 2);
        x.bout(2, 0);
        due("SIZE of three", x.ask(1, 0) + 100, 3);
        due("SIZE of another train", x.ask(3, 0) + 100, 1);
    }

    private static void sizeOfBoys() {
        FistTrains x = hallOf("steady0 boy2 boy0 steady1");
        askDue(x, 1, 0, 1 + (1 + 2), "11 10 21 20");
        x.bout(1, 3);
        askDue(x, 1, 0, 2 + (1 + 2), "11 10 21 20");
        askDue(x, 2, 0, 1 + (2 + 0), "11 10 21 20");
    }

    private static void sizeOfSteady() {
        FistTrains x = hallOf("steady0 steady1 steady2");
        askDue(x, 0, 0, -(1 + 0), "12 11 10 24 21 20");
        askDue(x, 1, 0, -(1 + 2 * (1 + 1)), "12 11 10 24 21 20");
        askDue(x, 2, 0, -(1 + 2 * (2 + 2)), "12 11 10 24 21 20");
        x.bout(0, 1);
        askDue(x, 0, 0, -(2 + 0), "12 11 10 24 21 20");
    }

    private static void sizeOfMirrors() {
        FistTrains x = hallOf("mirror0 mirror1");
        askDue(x, 0, 0, -99, "13 10");
        x.bout(0, 1);
        askDue(x, 0, 0, -98, "13 10");
        askDue(x, 1, 0, -98, "13 10");
    }

    private static void sizeOfSpies() {
        FistTrains x = hallOf("spy0 boy1");
        askDue(x, 0, 0, -198, "14 13 10");
        x.bout(0, 1);
        askDue(x, 0, 0, -196, "14 13 10");
    }

    private static void lentMark() {
        FistTrains x = hallOf("boy0 boy0 boy0 boy0 boy0 boy0 boy0 boy0");
        for (int p = 0; p < 8; p++) {
            askDue(x, p, 1, p, "21 20");
        }
    }

    private static void markOfBoys() {
        FistTrains x = hallOf("boy1 boy2 boy0");
        askDue(x, 0, 1, 1, "21 20");
        askDue(x, 1, 1, 3, "21 20");
        askDue(x, 2, 1, 2, "21 20");
        x.hand(2, 2);
        askDue(x, 2, 1, 4, "21 20");
    }

    private static void markOfTeachers() {
        FistTrains x = hallOf("teacher0 teacher2");
        askDue(x, 0, 1, -1000, "22 21 20");
        askDue(x, 1, 1, -997, "22 21 20");
    }

    private static void markOfMirrors() {
        FistTrains x = hallOf("mirror0 mirror1 spy2");
        askDue(x, 0, 1, 99, "23 20 13 10");
        askDue(x, 1, 1, 1 + 99, "23 20 13 10");
        askDue(x, 2, 1, 2 + 198, "23 20 14 13 10");
        x.bout(2, 1);
        askDue(x, 1, 1, 1 + 98, "23 20 13 10");
        askDue(x, 2, 1, 2 + 196, "23 20 14 13 10");
    }

    private static void markOfSteady() {
        FistTrains x = hallOf("steady1 steady2");
        askDue(x, 0, 1, 2, "24 21 20");
        askDue(x, 1, 1, 6, "24 21 20");
    }

    private static void nearestBody() {
        FistTrains x = hallOf(ALL_KINDS);
        askDue(x, 1, 1, 6, "24 21 20");
        askDue(x, 2, 0, 1 + 4 - 1000, "11 10 22 21 20");
        askDue(x, 4, 1, 4 + 198, "23 20 14 13 10");
    }

    private static void askedAnew() {
        FistTrains x = hallOf(ALL_KINDS);
        askDue(x, 1, 0, -(1 + 6), "12 11 10 24 21 20");
        askDue(x, 2, 0, 1 - 996, "11 10 22 21 20");
        askDue(x, 4, 1, 4 + 198, "23 20 14 13 10");
        askDue(x, 3, 1, 3 + 99, "23 20 13 10");
    }
}
