import java.io.IOException;
import java.util.regex.Pattern;

/** The second part of 'Terms', sentence by sentence: hands, bouts, trains, acts. */
public final class BoutTermsTest extends Sentences {
    public static void main(String[] args) throws IOException {
        section("Terms 2");
        bouts();
        acts();
        runAll(Pattern.compile("Terms 2"));
    }

    // ---- bouts

    private static void bouts() {
        sentence("HANDS: 0 stone, 1 paper, 2 scissors: paper beats stone, scissors paper, stone scissors.",
            BoutTermsTest::whatBeatsWhat);
        sentence("NEXT of a HAND is the one that beats it.", BoutTermsTest::nextOfHands);
        sentence("A BOUT of two who LEAD", BoutTermsTest::twoWhoLead);
        sentence("THROW by THROW: each plays his HAND;", BoutTermsTest::eachPlaysHisHand);
        sentence("a spy in the first THROW the NEXT of the HAND that the other one has", BoutTermsTest::spyPlaysNext);
        sentence("(both as they have them ahead of it; of two spies each does so).", BoutTermsTest::twoSpies);
        sentence("If both played alike, each has another HAND, by the two that were played:", BoutTermsTest::tiesGoOn);
        sentence("a boy NEXT of his;", BoutTermsTest::boyBehindATie);
        sentence("a steady one his own;", BoutTermsTest::steadyBehindATie);
        sentence("a teacher NEXT of his, but stone, where that is scissors (behind paper);",
            BoutTermsTest::teacherBehindATie);
        sentence("mirrors and spies NEXT of the other one's.", BoutTermsTest::mirrorBehindATie);
        sentence("Else it ends: both have the HANDS then that they played, who beat the other one has won.",
            BoutTermsTest::boutEnds);
        sentence("At the latest it ends with the 9th THROW:", BoutTermsTest::nineThrows);
        sentence("if that is a tie, too (both have what they played)", BoutTermsTest::handsBehindNineThrows);
        sentence("who has the longer TRAIN has won", BoutTermsTest::longerTrainWins);
        sentence("of like ones the lesser number.", BoutTermsTest::lesserNumberWins);
        sentence("Who has lost LEADS no more: he and all who are in his TRAIN are in that of the winner.",
            BoutTermsTest::loserGoesBehind);
    }

    /** A bout of the first two of a hall, in both orders of the call: who wins, in how many throws, hands then. */
    private static void boutDue(String players, int winner, int throwsDue, String handsDue) {
        for (int a = 0; a < 2; a++) {
            FistTrains x = hallOf(players);
            String call = "(" + a + ", " + (1 - a) + ") of " + players;
            due("beats" + call, x.beats(a, 1 - a, 0), winner);
            due("throws of beats" + call, x.beats(a, 1 - a, 1), throwsDue);
            due("bout" + call, x.bout(a, 1 - a), winner);
            due("time of bout" + call, x.count(4), throwsDue);
            due("hands behind bout" + call, hands(x).substring(0, 2), handsDue);
        }
    }

    private static void whatBeatsWhat() {
        boutDue("steady0 steady1", 1, 1, "01");
        boutDue("steady1 steady0", 0, 1, "10");
        boutDue("steady1 steady2", 1, 1, "12");
        boutDue("steady2 steady1", 0, 1, "21");
        boutDue("steady2 steady0", 1, 1, "20");
        boutDue("steady0 steady2", 0, 1, "02");
    }

    private static void nextOfHands() {
        boutDue("spy0 steady0", 0, 1, "10");
        boutDue("spy0 steady1", 0, 1, "21");
        boutDue("spy0 steady2", 0, 1, "02");
    }

    private static void twoWhoLead() {
        FistTrains x = hallOf("steady0 steady1 steady2");
        x.bout(0, 1);
        due("bout(0, 2), 0 does not lead", x.bout(0, 2), STATE);
        due("bout(2, 0), 0 does not lead", x.bout(2, 0), STATE);
        due("bout(0, 1), of one train", x.bout(0, 1), STATE);
        due("bout(1, 2)", x.bout(1, 2), 2);
    }

    private static void eachPlaysHisHand() {
        for (int kind = 1; kind <= 4; kind++) {
            for (int other = 1; other <= 4; other++) {
                for (int hand = 0; hand < 3; hand++) {
                    int next = (hand + 1) % 3;
                    boutDue(SORTS[kind] + hand + " " + SORTS[other] + next, 1, 1, "" + hand + next);
                }
            }
        }
    }

    private static void spyPlaysNext() {
        for (int kind = 1; kind <= 4; kind++) {
            for (int hand = 0; hand < 3; hand++) {
                for (int own = 0; own < 3; own++) {
                    int next = (hand + 1) % 3;
                    boutDue("spy" + own + " " + SORTS[kind] + hand, 0, 1, "" + next + hand);
                    boutDue(SORTS[kind] + hand + " spy" + own, 1, 1, "" + hand + next);
                }
            }
        }
    }

    private static void twoSpies() {
        boutDue("spy0 spy1", 0, 1, "21");
        boutDue("spy1 spy2", 0, 1, "02");
        boutDue("spy2 spy0", 0, 1, "10");
        boutDue("spy1 spy0", 1, 1, "12");
        boutDue("spy2 spy1", 1, 1, "20");
        boutDue("spy0 spy2", 1, 1, "01");
    }

    private static void tiesGoOn() {
        boutDue("boy0 steady0", 0, 2, "10");
        boutDue("teacher1 mirror1", 0, 2, "02");
        boutDue("boy2 teacher2", 1, 4, "20");
    }

    private static void boyBehindATie() {
        boutDue("boy0 steady0", 0, 2, "10");
        boutDue("boy1 steady1", 0, 2, "21");
        boutDue("boy2 steady2", 0, 2, "02");
        boutDue("steady2 boy2", 1, 2, "20");
    }

    private static void steadyBehindATie() {
        for (int hand = 0; hand < 3; hand++) {
            boutDue("steady" + hand + " steady" + hand, 0, 9, "" + hand + hand);
            boutDue("steady" + hand + " boy" + hand, 1, 2, "" + hand + (hand + 1) % 3);
        }
    }

    private static void teacherBehindATie() {
        boutDue("teacher0 steady0", 0, 2, "10");
        boutDue("teacher1 steady1", 1, 2, "01");
        boutDue("teacher2 steady2", 0, 2, "02");
        boutDue("boy0 teacher0", 1, 3, "20");
        boutDue("boy1 teacher1", 1, 2, "20");
        boutDue("boy2 teacher2", 1, 4, "20");
        boutDue("teacher0 teacher0", 0, 9, "00");
        boutDue("teacher1 teacher1", 0, 9, "11");
        boutDue("teacher2 teacher2", 0, 9, "11");
    }

    private static void mirrorBehindATie() {
        boutDue("mirror0 steady0", 0, 2, "10");
        boutDue("mirror1 steady1", 0, 2, "21");
        boutDue("mirror2 steady2", 0, 2, "02");
        boutDue("mirror1 teacher1", 1, 2, "20");
        boutDue("mirror0 mirror0", 0, 9, "22");
        boutDue("mirror1 boy1", 0, 9, "00");
        boutDue("spy0 spy0", 0, 9, "00");
        boutDue("spy1 spy1", 0, 9, "11");
        boutDue("spy2 spy2", 0, 9, "22");
    }

    private static void boutEnds() {
        boutDue("boy2 boy1", 0, 1, "21");
        boutDue("teacher1 boy1", 0, 2, "02");
        FistTrains x = hallOf("steady1 boy2 boy2");
        due("a longer train does not win a throw", x.bout(1, 0), 1);
        x.hand(1, 0);
        x.hand(2, 1);
        due("who beat the other one", x.bout(1, 2), 2);
        due("hands", hands(x), "101");
    }

    private static void nineThrows() {
        String[] ties = {"steady0 steady0", "boy0 boy0", "boy1 mirror1", "mirror2 mirror2", "teacher0 teacher0",
            "spy1 spy1"};
        for (String players : ties) {
            due("throws of " + players, hallOf(players).beats(0, 1, 1), 9);
            FistTrains x = hallOf(players);
            x.round();
            due("time of " + players, x.count(4), 9);
            due("leaders", leaders(x), "00");
        }
    }

    private static void handsBehindNineThrows() {
        boutDue("boy0 boy0", 0, 9, "22");
        boutDue("boy1 boy1", 0, 9, "00");
        boutDue("boy2 boy2", 0, 9, "11");
        boutDue("mirror2 boy2", 0, 9, "11");
        boutDue("steady1 steady1", 0, 9, "11");
        boutDue("teacher2 teacher2", 0, 9, "11");
        boutDue("spy2 spy2", 0, 9, "22");
    }

    private static void longerTrainWins() {
        FistTrains x = hallOf("steady1 steady1 steady0 steady0 steady0");
        x.bout(1, 2);
        due("beats(0, 1, 0), 1 against 2", x.beats(0, 1, 0), 1);
        due("bout(0, 1), 1 against 2", x.bout(0, 1), 1);
        FistTrains y = hallOf("steady1 steady1 steady0 steady0 steady0");
        y.bout(0, 2);
        y.bout(1, 3);
        y.bout(1, 4);
        due("beats(0, 1, 0), 2 against 3", y.beats(0, 1, 0), 1);
        due("beats(1, 0, 0), 3 against 2", y.beats(1, 0, 0), 1);
        due("bout(1, 0), 3 against 2", y.bout(1, 0), 1);
        due("trains", trains(y), "55555");
    }

    private static void lesserNumberWins() {
        due("bout(1, 0)", hallOf("steady1 steady1").bout(1, 0), 0);
        FistTrains x = hallOf("steady0 steady1 steady1 steady0");
        x.bout(2, 0);
        x.bout(1, 3);
        due("beats(2, 1, 0), 2 against 2", x.beats(2, 1, 0), 1);
        due("bout(2, 1), 2 against 2", x.bout(2, 1), 1);
        due("bout(7, 6)", hallOf("boy0 boy0 boy0 boy0 boy0 boy0 boy0 boy0").bout(7, 6), 6);
    }

    private static void loserGoesBehind() {
        FistTrains x = hallOf("steady0 steady1 steady2 steady0 steady1");
        x.bout(0, 1);
        due("leaders", leaders(x), "11234");
        x.bout(3, 4);
        due("leaders", leaders(x), "11244");
        x.bout(1, 2);
        due("leaders", leaders(x), "22244");
        due("trains", trains(x), "33322");
        x.bout(4, 2);
        due("leaders", leaders(x), "22222");
        due("trains", trains(x), "55555");
        due("count(2)", x.count(2), 1);
        due("he who lost is no leader", x.bout(4, 2), STATE);
    }

    // ---- acts

    private static void acts() {
        sentence("ACTS (24 at most are kept", BoutTermsTest::actsAreKept);
        sentence("of more the oldest is forgotten;", BoutTermsTest::oldestIsForgotten);
        sentence("each can be undone, the latest first;", BoutTermsTest::latestFirst);
        sentence("also such by which nothing becomes another):", BoutTermsTest::actsOfNothing);
        sentence("a BOUT: TIME is as many THROWS more;", BoutTermsTest::timeOfABout);
        sentence("a ROUND: of all who LEAD, by numbers, the first has a BOUT with the second, the third with the"
            + " fourth, and so on, all at once", BoutTermsTest::pairsOfARound);
        sentence("(the last one waits, if there are odd ones);", BoutTermsTest::lastOneWaits);
        sentence("TIME is more by the most THROWS of one of these;", BoutTermsTest::timeOfARound);
        sentence("a PLAYER has another HAND.", BoutTermsTest::anotherHand);
    }

    private static FistTrains withActs(int acts) {
        FistTrains x = hallOf("boy0");
        for (int i = 1; i <= acts; i++) {
            x.hand(0, i % 3);
        }
        return x;
    }

    private static int allUndone(FistTrains x) {
        int undone = 0;
        while (undone < 100 && x.undo() != STATE) {
            undone++;
        }
        return undone;
    }

    private static void actsAreKept() {
        due("count(5) of 23", withActs(23).count(5), 23);
        due("count(5) of 24", withActs(24).count(5), 24);
        due("count(5) of 25", withActs(25).count(5), 24);
        due("count(5) of 60", withActs(60).count(5), 24);
        due("undone of 24", allUndone(withActs(24)), 24);
        due("undone of 25", allUndone(withActs(25)), 24);
        due("undone of 49", allUndone(withActs(49)), 24);
    }

    private static void oldestIsForgotten() {
        for (int acts = 24; acts <= 50; acts++) {
            FistTrains x = withActs(acts);
            due("undone of " + acts, allUndone(x), 24);
            due("hand behind " + acts + " less 24", x.player(0, 0), (acts - 24) % 3);
        }
        FistTrains x = withActs(24);
        x.undo();
        x.hand(0, 1);
        x.hand(0, 2);
        due("undone behind an undo", allUndone(x), 24);
        due("hand, the first act forgotten", x.player(0, 0), 1);
    }

    private static void latestFirst() {
        FistTrains x = hallOf("steady0 steady1 steady0 steady2 steady1");
        x.hand(0, 2);
        x.bout(0, 1);
        x.round();
        rowOf(x, 0, 0, 1, 1, 1, 1, 1);
        x.hands(0);
        due("hands", hands(x), "11111");
        due("undo() of hands", x.undo(), 3);
        due("hands", hands(x), "21021");
        due("leaders", leaders(x), "22233");
        due("undo() of a round", x.undo(), 2);
        due("leaders", leaders(x), "00234");
        due("count(3)", x.count(3), 0);
        due("count(4)", x.count(4), 1);
        due("undo() of a bout", x.undo(), 1);
        due("leaders", leaders(x), "01234");
        due("count(4)", x.count(4), 0);
        due("hands", hands(x), "21021");
        due("undo() of a hand", x.undo(), 0);
        due("hands", hands(x), "01021");
        due("undo() of none", x.undo(), STATE);
    }

    private static void actsOfNothing() {
        FistTrains x = hallOf("boy1 boy2");
        due("hand as it is", x.hand(0, 1), 1);
        due("count(5)", x.count(5), 1);
        rowOf(x, 0, 0, 1, 2);
        due("hands as they are", x.hands(0), 0);
        due("count(5)", x.count(5), 2);
        x.hand(0, 2);
        due("undo()", x.undo(), 2);
        due("undo()", x.undo(), 1);
        due("hands", hands(x), "12");
        due("undo()", x.undo(), 0);
        due("hands", hands(x), "12");
    }

    private static void timeOfABout() {
        FistTrains x = hallOf("steady0 steady1 boy1 steady2 steady2");
        x.bout(0, 1);
        due("count(4)", x.count(4), 1);
        x.bout(1, 2);
        due("count(4)", x.count(4), 1 + 2);
        x.bout(3, 4);
        due("count(4)", x.count(4), 1 + 2 + 9);
        due("count(3)", x.count(3), 0);
    }

    private static void pairsOfARound() {
        FistTrains x = hallOf("steady0 steady1 steady2 steady1 steady0 steady2 steady1 steady0");
        due("round()", x.round(), 4);
        due("leaders", leaders(x), "11224466");
        due("round()", x.round(), 2);
        due("leaders", leaders(x), "22226666");
        due("round()", x.round(), 1);
        due("leaders", leaders(x), "22222222");
        FistTrains y = hallOf("steady1 steady0 steady0 steady1 steady2");
        y.bout(0, 2);
        due("round(), of 0, 1, 3, 4", y.round(), 2);
        due("leaders", leaders(y), "00044");
    }

    private static void lastOneWaits() {
        FistTrains x = hallOf("boy0 boy1 boy0");
        due("round() of 3", x.round(), 2);
        due("leaders", leaders(x), "112");
        due("hands", hands(x), "010");
        FistTrains y = hallOf("steady0 steady1 steady0 steady1 steady0 steady1 spy2");
        due("round() of 7", y.round(), 4);
        due("leaders", leaders(y), "1133556");
        due("hand of 6", y.player(6, 0), 2);
        due("train of 6", y.player(6, 2), 1);
        due("count(4)", y.count(4), 1);
    }

    private static void timeOfARound() {
        FistTrains x = hallOf("boy2 teacher2 steady0 steady1 boy0 steady0");
        x.round();
        due("count(4), of 4, 1, 2", x.count(4), 4);
        FistTrains y = hallOf("steady0 steady1 boy0 steady0 steady0 steady0");
        y.round();
        due("count(4), of 1, 2, 9", y.count(4), 9);
        y.round();
        due("count(4), with 2 more", y.count(4), 11);
        FistTrains z = hallOf("steady0 steady1 steady2 steady1");
        z.round();
        due("count(4), of 1, 1", z.count(4), 1);
    }

    private static void anotherHand() {
        FistTrains x = hallOf("boy0 boy1");
        x.hand(1, 2);
        due("hands", hands(x), "02");
        due("count(5)", x.count(5), 1);
        due("count(4)", x.count(4), 0);
        due("count(3)", x.count(3), 0);
        due("leaders", leaders(x), "01");
        x.undo();
        due("hands", hands(x), "01");
    }
}
