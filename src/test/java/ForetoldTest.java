import java.io.IOException;
import java.util.regex.Pattern;

/** The sentences of promises 15 to 25, each with a test of its own: what is foretold, odds, images. */
public final class ForetoldTest extends Sentences {
    public static void main(String[] args) throws IOException {
        foretellingOfBouts();
        foretellingOfHands();
        fewestAndBegun();
        odds();
        images();
        runAll(Pattern.compile("Promise (1[5-9]|2[0-5])"));
    }

    // ---- promises 15 to 17

    private static void foretellingOfBouts() {
        section("Promise 15");
        sentence("Of a BOUT: who wins (what = 0)", ForetoldTest::whoWins);
        sentence("THROWS (1).", ForetoldTest::throwsOfABout);
        sentence("BAD: alike, too;", ForetoldTest::beatsOfNoPair);
        sentence("(1). BAD:", ForetoldTest::beatsOfNoWhat);
        sentence("STATE: one does not LEAD.", ForetoldTest::beatsOfNoLeader);
        section("Promise 16");
        sentence("LEFT: who (what = 0)", ForetoldTest::whoIsLeft);
        sentence("ROUNDS (1)", ForetoldTest::roundsTillLeft);
        sentence("TIME (2).", ForetoldTest::timeTillLeft);
        sentence("BAD;", ForetoldTest::leftOfNoWhat);
        sentence("STATE: no HALL", ForetoldTest::leftOfNoHall);
        sentence("(ahead of BAD).", ForetoldTest::leftOfNoHallAheadOfBad);
        section("Promise 17");
        sentence("LONGEST: how many (what = 0)", ForetoldTest::longestTrain);
        sentence("who (1).", ForetoldTest::whoLeadsTheLongest);
        sentence("BAD;", ForetoldTest::longestOfNoRounds);
        sentence("who (1). BAD;", ForetoldTest::longestOfNoWhat);
        sentence("STATE: no HALL", ForetoldTest::longestOfNoHall);
        sentence("(ahead of BAD).", ForetoldTest::longestOfNoHallAheadOfBad);
    }

    private static void whoWins() {
        FistTrains x = hallOf("steady0 steady1 boy1 spy0 teacher2 boy2");
        due("beats(0, 1, 0)", x.beats(0, 1, 0), 1);
        due("beats(1, 0, 0)", x.beats(1, 0, 0), 1);
        due("beats(2, 1, 0)", x.beats(2, 1, 0), 2);
        due("beats(2, 3, 0)", x.beats(2, 3, 0), 3);
        due("beats(5, 4, 0)", x.beats(5, 4, 0), 4);
        due("leaders", leaders(x), "012345");
        due("hands", hands(x), "011022");
        for (int a = 0; a < 6; a++) {
            for (int b = 0; b < 6; b++) {
                if (a != b) {
                    int wins = x.beats(a, b, 0);
                    due("bout(" + a + ", " + b + ")", x.bout(a, b), wins);
                    x.undo();
                }
            }
        }
    }

    private static void throwsOfABout() {
        FistTrains x = hallOf("steady0 steady1 boy1 spy0 teacher2 boy2 steady0 boy0");
        due("beats(0, 1, 1)", x.beats(0, 1, 1), 1);
        due("beats(2, 1, 1)", x.beats(2, 1, 1), 2);
        due("beats(4, 5, 1)", x.beats(4, 5, 1), 4);
        due("beats(0, 6, 1)", x.beats(0, 6, 1), 9);
        due("count(4)", x.count(4), 0);
        x.hand(4, 0);
        due("beats(4, 7, 1)", x.beats(4, 7, 1), 3);
    }

    private static void beatsOfNoPair() {
        for (int what = 0; what < 2; what++) {
            int told = what;
            refused("beats(0, 0, " + what + ")", BAD, x -> x.beats(0, 0, told));
            refused("beats(1, 1, " + what + ")", BAD, x -> x.beats(1, 1, told));
            for (int p : NO_PLAYERS) {
                refused("beats(" + p + ", 0, " + what + ")", BAD, x -> x.beats(p, 0, told));
                refused("beats(0, " + p + ", " + what + ")", BAD, x -> x.beats(0, p, told));
                refused("beats(1, " + p + ", " + what + ")", BAD, x -> x.beats(1, p, told));
                refused("beats(" + p + ", " + p + ", " + what + ")", BAD, x -> x.beats(p, p, told));
            }
        }
        refused(Sentences::withoutHall, "beats(0, 1, 0)", BAD, x -> x.beats(0, 1, 0));
    }

    private static void beatsOfNoWhat() {
        for (int what : NO_PAIR_WHATS) {
            refused("beats(0, 3, " + what + ")", BAD, x -> x.beats(0, 3, what));
            refused("beats(0, 1, " + what + "), 1 does not lead", BAD, x -> x.beats(0, 1, what));
        }
    }

    private static void beatsOfNoLeader() {
        for (int p : new int[] {1, 2, 4}) {
            for (int what = 0; what < 2; what++) {
                int told = what;
                refused("beats(" + p + ", 0, " + what + ")", STATE, x -> x.beats(p, 0, told));
                refused("beats(3, " + p + ", " + what + ")", STATE, x -> x.beats(3, p, told));
            }
        }
        refused("beats(1, 4, 0)", STATE, x -> x.beats(1, 4, 0));
    }

    private static final String EIGHT = "steady0 steady1 boy0 boy0 steady2 teacher2 mirror1 steady1";

    /** Played to its end: who leads, behind how many rounds more, and how much time more. */
    private static int[] played(FistTrains x) {
        int round = x.count(3);
        int time = x.count(4);
        for (int i = 0; i < 9 && x.count(2) > 1; i++) {
            x.round();
        }
        return new int[] {x.player(0, 1), x.count(3) - round, x.count(4) - time};
    }

    private static void leftAsPlayed(int what) {
        for (String players : new String[] {"boy1", "steady0 steady0", "boy0 spy1 mirror0", EIGHT}) {
            FistTrains x = hallOf(players);
            for (int rounds = 0; rounds < 4; rounds++) {
                FistTrains y = hallOf(players);
                for (int i = 0; i < rounds; i++) {
                    y.round();
                }
                due("left(" + what + ") behind " + rounds + " of " + players, x.left(what), played(y)[what]);
                x.round();
            }
        }
    }

    private static void whoIsLeft() {
        leftAsPlayed(0);
        due("left(0), alone", hallOf("boy1").left(0), 0);
        due("left(0)", withOneLeader().left(0), 3);
        due("left(0)", hallOf("steady0 steady1 steady2 steady0 steady1 steady2 steady0 steady1").left(0), 5);
    }

    private static void roundsTillLeft() {
        leftAsPlayed(1);
        int[] rounds = {0, 1, 2, 2, 3, 3, 3, 3};
        for (int players = 1; players <= 8; players++) {
            FistTrains x = new FistTrains();
            read(x, "player boy 1;".repeat(players));
            due("left(1) of " + players, x.left(1), rounds[players - 1]);
        }
    }

    private static void timeTillLeft() {
        leftAsPlayed(2);
        due("left(2), alone", hallOf("boy1").left(2), 0);
        due("left(2), three times nine", hallOf("spy0 spy0 spy0 spy0 spy0 spy0 spy0 spy0").left(2), 27);
    }

    private static void leftOfNoWhat() {
        for (int what : new int[] {-1, 3, 4, LEAST, MOST}) {
            refused("left(" + what + ")", BAD, x -> x.left(what));
        }
    }

    private static void leftOfNoHall() {
        for (int what = 0; what < 3; what++) {
            int told = what;
            refused(Sentences::withoutHall, "left(" + what + ")", STATE, x -> x.left(told));
        }
    }

    private static void leftOfNoHallAheadOfBad() {
        for (int what : new int[] {-1, 3, LEAST, MOST}) {
            refused(Sentences::withoutHall, "left(" + what + ")", STATE, x -> x.left(what));
        }
    }

    private static void longestTrain() {
        FistTrains x = hallOf(EIGHT);
        FistTrains y = hallOf(EIGHT);
        int[] sizes = {1, 2, 4, 8};
        for (int n = 0; n <= 9; n++) {
            due("longest(" + n + ", 0)", x.longest(n, 0), sizes[Math.min(n, 3)]);
            int most = 0;
            for (int p = 0; p < 8; p++) {
                most = Math.max(most, y.player(p, 2));
            }
            due("the longest one played", x.longest(n, 0), most);
            y.round();
        }
        due("longest(0, 0)", busy().longest(0, 0), 3);
        due("longest(1, 0)", busy().longest(1, 0), 5);
    }

    private static void whoLeadsTheLongest() {
        due("longest(0, 1), all alike", hallOf(EIGHT).longest(0, 1), 0);
        due("longest(1, 1)", hallOf(EIGHT).longest(1, 1), 1);
        due("longest(9, 1)", hallOf(EIGHT).longest(9, 1), hallOf(EIGHT).left(0));
        due("longest(0, 1)", busy().longest(0, 1), 0);
        due("longest(1, 1)", busy().longest(1, 1), 3);
        FistTrains x = hallOf("steady0 steady1 steady0 steady1 steady0");
        x.bout(2, 3);
        due("longest(0, 1), the longest is not the first", x.longest(0, 1), 3);
        x.bout(0, 1);
        due("longest(0, 1), the first of two", x.longest(0, 1), 1);
    }

    private static void longestOfNoRounds() {
        due("longest(0, 1)", busy().longest(0, 1), 0);
        due("longest(9, 1)", busy().longest(9, 1), 3);
        for (int n : new int[] {-1, 10, 11, LEAST, MOST}) {
            refused("longest(" + n + ", 0)", BAD, x -> x.longest(n, 0));
            refused("longest(" + n + ", 1)", BAD, x -> x.longest(n, 1));
        }
    }

    private static void longestOfNoWhat() {
        for (int what : NO_PAIR_WHATS) {
            refused("longest(0, " + what + ")", BAD, x -> x.longest(0, what));
            refused("longest(9, " + what + ")", BAD, x -> x.longest(9, what));
        }
    }

    private static void longestOfNoHall() {
        refused(Sentences::withoutHall, "longest(0, 0)", STATE, x -> x.longest(0, 0));
        refused(Sentences::withoutHall, "longest(9, 1)", STATE, x -> x.longest(9, 1));
    }

    private static void longestOfNoHallAheadOfBad() {
        refused(Sentences::withoutHall, "longest(10, 0)", STATE, x -> x.longest(10, 0));
        refused(Sentences::withoutHall, "longest(-1, 0)", STATE, x -> x.longest(-1, 0));
        refused(Sentences::withoutHall, "longest(0, 2)", STATE, x -> x.longest(0, 2));
        refused(Sentences::withoutHall, "longest(0, -1)", STATE, x -> x.longest(0, -1));
    }

    // ---- promises 18, 19

    private static void foretellingOfHands() {
        section("Promise 18");
        sentence("BEGIN.", ForetoldTest::begin);
        sentence("BAD;", ForetoldTest::beginOfNoPlayer);
        sentence("STATE: he does not LEAD.", ForetoldTest::beginOfNoLeader);
        section("Promise 19");
        sentence("SEEK.", ForetoldTest::seek);
        sentence("BAD;", ForetoldTest::seekOfNoPlayer);
        sentence("STATE: he does not LEAD.", ForetoldTest::seekOfNoLeader);
    }

    /** For how many rounds a player leads by a hand: it is tried on the object itself, and undone. */
    private static int roundsLed(FistTrains x, int player, int hand) {
        x.hand(player, hand);
        int led = 0;
        for (int i = 0; i < 3 && x.count(2) > 1 && x.player(player, 1) == player; i++) {
            x.round();
            led += x.player(player, 1) == player ? 1 : 0;
        }
        boolean isLeft = x.player(player, 1) == player;
        for (int i = 0; i < 4 && x.count(5) > 0; i++) {
            x.undo();
        }
        return isLeft ? 100 : led;
    }

    private static void begin() {
        String[] halls = {EIGHT, "steady0 steady1 steady0 steady2", "boy1 boy1 boy1 boy1 boy1",
            "spy2 spy1 spy0 mirror0", "teacher1 teacher1 mirror1 boy0 steady2 steady2 teacher0", "boy2"};
        for (String players : halls) {
            int many = players.split(" ").length;
            for (int p = 0; p < many; p++) {
                FistTrains x = hallOf(players);
                int best = 0;
                for (int hand = 1; hand < 3; hand++) {
                    best = roundsLed(x, p, hand) > roundsLed(x, p, best) ? hand : best;
                }
                due("begin(" + p + ") of " + players, x.begin(p), best);
            }
        }
        due("begin(0) of busy()", busy().begin(0), 0);
    }

    private static void beginOfNoPlayer() {
        for (int p : NO_PLAYERS) {
            refused("begin(" + p + ")", BAD, x -> x.begin(p));
        }
        refused(Sentences::withoutHall, "begin(0)", BAD, x -> x.begin(0));
    }

    private static void beginOfNoLeader() {
        for (int p : new int[] {1, 2, 4}) {
            refused("begin(" + p + ")", STATE, x -> x.begin(p));
        }
        refused(Sentences::withOneLeader, "begin(0)", STATE, x -> x.begin(0));
        due("begin(3), who leads alone", withOneLeader().begin(3), 0);
    }

    private static void seek() {
        String[] halls = {EIGHT, "steady0 steady1 steady0 steady2", "boy1 boy1 boy1 boy1 boy1",
            "spy2 spy1 spy0 mirror0"};
        for (String players : halls) {
            FistTrains x = hallOf(players);
            int many = x.count(1);
            for (int p = 0; p < many; p++) {
                int bits = 0;
                for (int other = 0; other < many; other++) {
                    if (other != p) {
                        x.bout(p, other);
                        bits |= x.left(0) == p ? 1 << other : 0;
                        x.undo();
                    }
                }
                due("seek(" + p + ") of " + players, x.seek(p), bits);
            }
        }
        due("seek(3) of busy()", busy().seek(3), 1);
        due("seek(3), alone", withOneLeader().seek(3), 0);
    }

    private static void seekOfNoPlayer() {
        for (int p : NO_PLAYERS) {
            refused("seek(" + p + ")", BAD, x -> x.seek(p));
        }
        refused(Sentences::withoutHall, "seek(0)", BAD, x -> x.seek(0));
    }

    private static void seekOfNoLeader() {
        for (int p : new int[] {1, 2, 4}) {
            refused("seek(" + p + ")", STATE, x -> x.seek(p));
        }
        refused(Sentences::withOneLeader, "seek(0)", STATE, x -> x.seek(0));
    }

    // ---- promises 20, 21

    private static void fewestAndBegun() {
        section("Promise 20");
        sentence("FEWEST: how many (k = -1)", ForetoldTest::fewestAnswers);
        sentence("the HAND of PLAYER k then", ForetoldTest::handThen);
        sentence("(of one who does not LEAD as it is);", ForetoldTest::handOfOneBehind);
        sentence("NONE.", ForetoldTest::fewestOfNone);
        sentence("BAD;", ForetoldTest::fewestOfNoPlayer);
        sentence("(k = -1), the HAND of PLAYER k", ForetoldTest::fewestOfNoK);
        sentence("STATE: he does not LEAD.", ForetoldTest::fewestOfNoLeader);
        section("Promise 21");
        sentence("BEGUN.", ForetoldTest::begun);
        sentence("BAD;", ForetoldTest::begunOfNoPlayer);
        sentence("STATE: one does not LEAD.", ForetoldTest::begunOfNoLeader);
    }

    /** Bouts "01 23" are 0 against 1, then 2 against 3. */
    private static FistTrains behindBouts(String players, String bouts) {
        FistTrains x = hallOf(players);
        for (String bout : bouts.isEmpty() ? new String[0] : bouts.split(" ")) {
            x.bout(bout.charAt(0) - '0', bout.charAt(1) - '0');
        }
        return x;
    }

    /** Who is left by each row of hands, in their order; NONE, where one who does not lead has another hand. */
    private static int[] leftByRow(String players, String bouts) {
        FistTrains x = behindBouts(players, bouts);
        int many = x.count(1);
        String handsNow = hands(x);
        String leadersNow = leaders(x);
        int[] left = new int[(int) Math.pow(3, many)];
        for (int row = 0; row < left.length; row++) {
            if (row % 20 == 0) {
                x = behindBouts(players, bouts);
            }
            boolean mayBe = true;
            for (int p = 0; p < many; p++) {
                int hand = handOf(row, p, many);
                mayBe &= leadersNow.charAt(p) == '0' + p || handsNow.charAt(p) == '0' + hand;
                x.hand(p, hand);
            }
            left[row] = mayBe ? x.left(0) : NONE;
        }
        return left;
    }

    private static int handOf(int row, int player, int many) {
        int rest = row;
        for (int p = many - 1; p > player; p--) {
            rest /= 3;
        }
        return rest % 3;
    }

    /** The best way, by trying all: how many have another hand, then the hands; empty for none. */
    private static String bestWay(String handsNow, int[] left, int player) {
        int many = handsNow.length();
        String best = "";
        int fewest = many + 1;
        for (int row = 0; row < left.length; row++) {
            StringBuilder told = new StringBuilder();
            int others = 0;
            for (int p = 0; left[row] == player && p < many; p++) {
                told.append(handOf(row, p, many));
                others += told.charAt(p) == handsNow.charAt(p) ? 0 : 1;
            }
            if (left[row] == player && others < fewest) {
                fewest = others;
                best = told.toString();
            }
        }
        return best.isEmpty() ? "" : fewest + best;
    }

    private static void fewestAsTried(String players, String bouts) {
        FistTrains x = behindBouts(players, bouts);
        int[] left = leftByRow(players, bouts);
        int many = x.count(1);
        for (int p = 0; p < many; p++) {
            if (x.player(p, 1) == p) {
                StringBuilder told = new StringBuilder();
                for (int k = -1; k < many; k++) {
                    int answer = x.fewest(p, k);
                    told.append(answer == NONE ? "" : answer);
                }
                due("fewest(" + p + ", ..) of " + players + " behind bouts " + bouts, told.toString(),
                    bestWay(hands(x), left, p));
            }
        }
    }

    private static void fewestAnswers() {
        due("fewest(0, -1), none", hallOf("steady1 steady1").fewest(0, -1), 0);
        due("fewest(1, -1), one", hallOf("steady1 steady1").fewest(1, -1), 1);
        due("fewest(2, -1), two", hallOf("steady1 steady1 steady1 steady0").fewest(2, -1), 2);
        due("fewest(3, -1), three", hallOf("steady1 steady1 steady0 steady0 boy0").fewest(3, -1), 3);
        due("fewest(0, -1), alone", hallOf("boy2").fewest(0, -1), 0);
        due("fewest(3, -1), alone", withOneLeader().fewest(3, -1), 0);
        FistTrains x = hallOf("boy1 boy1 boy1 boy1 boy1 boy1 boy1 boy1");
        due("fewest(0, -1), of eight", x.fewest(0, -1), 0);
    }

    private static void handThen() {
        fewestAsTried("steady1 steady1", "");
        fewestAsTried("steady0 teacher0 mirror1", "");
        fewestAsTried("steady1 boy1 boy1 steady0", "");
        fewestAsTried("boy2 boy0 steady0 steady0 boy2", "");
        fewestAsTried(EIGHT, "");
        FistTrains x = hallOf("boy0 spy1 steady2 steady1 teacher2 mirror0 mirror1 boy2");
        for (int k = 0; k < 8; k++) {
            due("fewest(1, " + k + "), no other HAND", x.fewest(1, k), x.player(k, 0));
        }
    }

    private static void handOfOneBehind() {
        FistTrains x = hallOf("steady2 steady0 steady0");
        x.bout(0, 1);
        due("fewest(2, 0)", x.fewest(2, 0), 2);
        x.hand(0, 1);
        due("fewest(2, 0)", x.fewest(2, 0), 1);
        x.hand(0, 0);
        due("fewest(2, 0)", x.fewest(2, 0), 0);
        fewestAsTried("steady2 steady0 steady0 boy1", "01");
        fewestAsTried("boy1 steady1 mirror1 teacher2", "23");
        fewestAsTried("steady1 steady1 steady0", "12");
        fewestAsTried("steady0 steady0 steady2 steady1 steady1", "23 34");
        fewestAsTried("steady1 steady0 steady0 steady2 steady1", "03 34");
        fewestAsTried("teacher0 boy1 spy1 mirror2 boy1 spy1", "53 05");
        fewestAsTried("steady0 teacher2 boy0 teacher1 steady1 mirror1 mirror2 boy0", "70 75");
        fewestAsTried("boy1 steady1 boy1 steady1 teacher0 boy0 steady0 mirror0", "01");
    }

    private static void fewestOfNone() {
        foretold(() -> hallOf("spy0 boy0 boy2"), "fewest(1, -1)", NONE, x -> x.fewest(1, -1));
        for (int k = 0; k < 3; k++) {
            int told = k;
            foretold(() -> hallOf("spy0 boy0 boy2"), "fewest(2, " + k + ")", NONE, x -> x.fewest(2, told));
        }
        foretold(Sentences::busy, "fewest(0, -1)", NONE, x -> x.fewest(0, -1));
        foretold(Sentences::busy, "fewest(0, 1), who does not lead", NONE, x -> x.fewest(0, 1));
    }

    private static void fewestOfNoPlayer() {
        for (int p : NO_PLAYERS) {
            refused("fewest(" + p + ", -1)", BAD, x -> x.fewest(p, -1));
            refused("fewest(" + p + ", 0)", BAD, x -> x.fewest(p, 0));
        }
        refused(Sentences::withoutHall, "fewest(0, -1)", BAD, x -> x.fewest(0, -1));
    }

    private static void fewestOfNoK() {
        due("fewest(3, -1)", busy().fewest(3, -1), 0);
        due("fewest(3, 4)", busy().fewest(3, 4), 1);
        for (int k : new int[] {-2, 5, 7, 8, LEAST, MOST}) {
            refused("fewest(3, " + k + ")", BAD, x -> x.fewest(3, k));
            refused("fewest(0, " + k + "), of NONE", BAD, x -> x.fewest(0, k));
            refused("fewest(1, " + k + "), who does not lead", BAD, x -> x.fewest(1, k));
        }
    }

    private static void fewestOfNoLeader() {
        for (int p : new int[] {1, 2, 4}) {
            refused("fewest(" + p + ", -1)", STATE, x -> x.fewest(p, -1));
            refused("fewest(" + p + ", 3)", STATE, x -> x.fewest(p, 3));
        }
        due("fewest(3, 1), of one who does not lead", busy().fewest(3, 1), 2);
    }

    private static void begun() {
        String[] halls = {EIGHT, "steady1 steady1 steady1", "boy1 boy1 boy1 boy1 boy1", "spy2 spy1 spy0 mirror0"};
        for (String players : halls) {
            int many = players.split(" ").length;
            for (int p = 0; p < many; p++) {
                FistTrains x = hallOf(players);
                for (int told = 0; told < many; told++) {
                    int bits = 0;
                    for (int hand = 0; hand < 3; hand++) {
                        x.hand(p, hand);
                        bits |= x.left(0) == told ? 1 << hand : 0;
                        x.undo();
                    }
                    due("begun(" + p + ", " + told + ") of " + players, x.begun(p, told), bits);
                }
            }
        }
        due("begun(0, 0), alone", hallOf("boy2").begun(0, 0), 7);
        due("begun(0, 0), never", busy().begun(0, 0), 0);
        due("begun(3, 3), alike", busy().begun(3, 3), 7);
    }

    private static void begunOfNoPlayer() {
        for (int p : NO_PLAYERS) {
            refused("begun(" + p + ", 0)", BAD, x -> x.begun(p, 0));
            refused("begun(0, " + p + ")", BAD, x -> x.begun(0, p));
            refused("begun(" + p + ", 1), who does not lead", BAD, x -> x.begun(p, 1));
            refused("begun(1, " + p + "), who does not lead", BAD, x -> x.begun(1, p));
        }
        refused(Sentences::withoutHall, "begun(0, 0)", BAD, x -> x.begun(0, 0));
    }

    private static void begunOfNoLeader() {
        for (int p : new int[] {1, 2, 4}) {
            refused("begun(" + p + ", 0)", STATE, x -> x.begun(p, 0));
            refused("begun(0, " + p + ")", STATE, x -> x.begun(0, p));
            refused("begun(" + p + ", " + p + ")", STATE, x -> x.begun(p, p));
        }
    }

    // ---- promises 22, 23

    private static void odds() {
        section("Promise 22");
        sentence("ODDS: above (what = 0)", ForetoldTest::oddsAbove);
        sentence("below (1);", ForetoldTest::oddsBelow);
        sentence("NONE.", ForetoldTest::oddsOfTiesAlone);
        sentence("BAD: A, B, C, too.", ForetoldTest::oddsOfNoShares);
        sentence("NONE. BAD:", ForetoldTest::oddsOfNoHand);
        sentence("BAD: A, B, C", ForetoldTest::oddsOfNoWhat);
        section("Promise 23");
        sentence("GAIN;", ForetoldTest::gain);
        sentence("NONE.", ForetoldTest::gainOfNone);
        sentence("BAD.", ForetoldTest::gainOfNoShares);
    }

    private static int divisorOf(int wins, int all) {
        return wins == 0 ? all : divisorOf(all % wins, wins);
    }

    /** Against stone, paper, scissors a hand wins by the one that it beats, and loses by the one that beats it. */
    private static void eachOddsDue(int what) {
        FistTrains x = new FistTrains();
        for (int a = 0; a <= 9; a++) {
            for (int b = 0; b <= 9 - a; b++) {
                int[] shares = {a, b, 9 - a - b};
                for (int hand = 0; hand < 3; hand++) {
                    int wins = shares[(hand + 2) % 3];
                    int all = wins + shares[(hand + 1) % 3];
                    int divisor = divisorOf(wins, all);
                    int want = all == 0 ? NONE : (what == 0 ? wins : all) / divisor;
                    due("odds(" + hand + ", " + a + ", " + b + ", " + shares[2] + ", " + what + ")",
                        x.odds(hand, a, b, shares[2], what), want);
                }
            }
        }
    }

    private static void oddsAbove() {
        eachOddsDue(0);
        due("odds, without a HALL", withoutHall().odds(0, 0, 3, 6, 0), 2);
    }

    private static void oddsBelow() {
        eachOddsDue(1);
        due("odds, without a HALL", withoutHall().odds(0, 0, 3, 6, 1), 3);
    }

    private static void oddsOfTiesAlone() {
        for (int what = 0; what < 2; what++) {
            int told = what;
            foretold(Sentences::busy, "odds(0, 9, 0, 0, " + what + ")", NONE, x -> x.odds(0, 9, 0, 0, told));
            foretold(Sentences::busy, "odds(1, 0, 9, 0, " + what + ")", NONE, x -> x.odds(1, 0, 9, 0, told));
            foretold(Sentences::busy, "odds(2, 0, 0, 9, " + what + ")", NONE, x -> x.odds(2, 0, 0, 9, told));
        }
        due("one of another HAND", busy().odds(0, 8, 1, 0, 0), 0);
    }

    private static final int[][] NO_SHARES = {{3, 3, 2}, {3, 3, 4}, {0, 0, 0}, {9, 9, 9}, {9, 0, 1}, {8, 0, 0},
        {10, 0, 0}, {0, 10, 0}, {0, 0, 10}, {-1, 5, 5}, {5, -1, 5}, {5, 5, -1}, {10, -1, 0}, {-1, 0, 10},
        {0, 10, -1}, {-9, 9, 9}, {LEAST, LEAST, 9}, {9, LEAST, LEAST}, {LEAST, 9, LEAST},
        {MOST, MOST, 11}, {MOST, 11, MOST}, {11, MOST, MOST}, {LEAST, 0, 0}, {0, MOST, 0}};

    private static void oddsOfNoShares() {
        for (int[] s : NO_SHARES) {
            String shares = s[0] + ", " + s[1] + ", " + s[2];
            refused("odds(0, " + shares + ", 0)", BAD, x -> x.odds(0, s[0], s[1], s[2], 0));
            refused("odds(2, " + shares + ", 1)", BAD, x -> x.odds(2, s[0], s[1], s[2], 1));
        }
    }

    private static void oddsOfNoHand() {
        for (int hand : NO_HANDS) {
            refused("odds(" + hand + ", 3, 3, 3, 0)", BAD, x -> x.odds(hand, 3, 3, 3, 0));
            refused("odds(" + hand + ", 9, 0, 0, 1)", BAD, x -> x.odds(hand, 9, 0, 0, 1));
        }
    }

    private static void oddsOfNoWhat() {
        for (int what : NO_PAIR_WHATS) {
            refused("odds(0, 3, 3, 3, " + what + ")", BAD, x -> x.odds(0, 3, 3, 3, what));
            refused("odds(0, 9, 0, 0, " + what + "), of ties alone", BAD, x -> x.odds(0, 9, 0, 0, what));
        }
    }

    private static void gain() {
        FistTrains x = new FistTrains();
        for (int a = 0; a <= 9; a++) {
            for (int b = 0; b <= 9 - a; b++) {
                int[] shares = {a, b, 9 - a - b};
                int best = NONE;
                for (int hand = 2; hand >= 0; hand--) {
                    int wins = shares[(hand + 2) % 3];
                    int all = wins + shares[(hand + 1) % 3];
                    int than = best == NONE ? 0 : shares[(best + 2) % 3];
                    int of = best == NONE ? 1 : than + shares[(best + 1) % 3];
                    if (all > 0 && wins * of >= than * all) {
                        best = hand;
                    }
                }
                due("gain(" + a + ", " + b + ", " + shares[2] + ")", x.gain(a, b, shares[2]), best);
            }
        }
        due("gain, without a HALL", withoutHall().gain(9, 0, 0), 1);
    }

    /** Of nine together two hands at the least have odds: there is never none. */
    private static void gainOfNone() {
        foretold(Sentences::busy, "gain(9, 0, 0)", 1, x -> x.gain(9, 0, 0));
        foretold(Sentences::busy, "gain(0, 9, 0)", 2, x -> x.gain(0, 9, 0));
        foretold(Sentences::busy, "gain(0, 0, 9)", 0, x -> x.gain(0, 0, 9));
    }

    private static void gainOfNoShares() {
        for (int[] s : NO_SHARES) {
            refused("gain(" + s[0] + ", " + s[1] + ", " + s[2] + ")", BAD, x -> x.gain(s[0], s[1], s[2]));
        }
    }

    // ---- promises 24, 25

    private static void images() {
        section("Promise 24");
        sentence("An IMAGE (0, 1) is kept of the HALL: 1.", ForetoldTest::imageIsKept);
        sentence("BAD;", ForetoldTest::imageOfNoK);
        sentence("STATE: no HALL.", ForetoldTest::imageOfNoHall);
        section("Promise 25");
        sentence("The HALL is as an IMAGE kept it", ForetoldTest::hallAsKept);
        sentence("(no ACT can be undone then)", ForetoldTest::noActsThen);
        sentence("then): 1.", ForetoldTest::restoreAnswers);
        sentence("BAD;", ForetoldTest::restoreOfNoK);
        sentence("STATE: none was kept.", ForetoldTest::restoreOfNone);
    }

    private static void imageIsKept() {
        FistTrains x = hallOf("boy0 boy1");
        due("image(0)", x.image(0), 1);
        x.hand(0, 2);
        due("image(1)", x.image(1), 1);
        x.hand(0, 1);
        x.restore(0);
        due("hands of image 0", hands(x), "01");
        x.restore(1);
        due("hands of image 1", hands(x), "21");
        due("image(0), in place of the one before", x.image(0), 1);
        x.hand(1, 0);
        x.restore(0);
        due("hands of image 0", hands(x), "21");
        FistTrains y = busy();
        String before = seen(y);
        y.image(1);
        due("an IMAGE is no ACT, and changes no HALL", seen(y), before);
    }

    private static void imageOfNoK() {
        for (int k : new int[] {-1, 2, 3, LEAST, MOST}) {
            refused("image(" + k + ")", BAD, x -> x.image(k));
            refused(Sentences::withoutHall, "image(" + k + "), no HALL", BAD, x -> x.image(k));
        }
    }

    private static void imageOfNoHall() {
        for (int k = 0; k < 2; k++) {
            int told = k;
            refused(Sentences::withoutHall, "image(" + k + ")", STATE, x -> x.image(told));
        }
        FistTrains x = withoutHall();
        x.image(0);
        due("restore(0), none was kept", x.restore(0), STATE);
    }

    private static void hallAsKept() {
        FistTrains x = busy();
        String hall = leaders(x) + hands(x) + trains(x) + x.count(3) + x.count(4) + x.left(2);
        x.image(1);
        x.round();
        x.hand(2, 1);
        x.hall();
        read(x, textOf("spy0 mirror1 teacher2 boy0 steady1 spy2 spy1 boy0"));
        x.round();
        x.restore(1);
        due("the HALL", leaders(x) + hands(x) + trains(x) + x.count(3) + x.count(4) + x.left(2), hall);
        due("count(1)", x.count(1), 5);
        for (int p = 0; p < 5; p++) {
            due("kind(" + p + ")", x.kind(p), new int[] {2, 1, 4, 5, 3}[p]);
        }
        due("kind(5)", x.kind(5), BAD);
        x.round();
        x.restore(1);
        due("the HALL, once more", leaders(x) + hands(x) + trains(x) + x.count(3) + x.count(4) + x.left(2), hall);
        due("count(0), ROWS stay", x.count(0), 4);
        x.feed(32, 1);
        x.restore(0);
        due("count(6), the tape stays", x.count(6), 1);
        due("count(3) of image 0", x.count(3), 0);
        due("count(4) of image 0", x.count(4), 0);
        due("leaders of image 0", leaders(x), "01234");
        due("hands of image 0", hands(x), "01201");
        due("fault() stays", x.fault(), 2);
        due("trace(0) stays", x.trace(0), 23);
    }

    private static void noActsThen() {
        FistTrains x = busy();
        due("count(5)", x.count(5), 3);
        x.restore(0);
        due("count(5)", x.count(5), 0);
        due("undo()", x.undo(), STATE);
        x.hand(0, 1);
        due("count(5), of those since", x.count(5), 1);
        due("undo()", x.undo(), 0);
        due("hands", hands(x), "01201");
    }

    private static void restoreAnswers() {
        FistTrains x = busy();
        x.image(1);
        due("restore(0)", x.restore(0), 1);
        due("restore(1)", x.restore(1), 1);
        due("restore(1), of the same", x.restore(1), 1);
    }

    private static void restoreOfNoK() {
        for (int k : new int[] {-1, 2, 3, LEAST, MOST}) {
            refused("restore(" + k + ")", BAD, x -> x.restore(k));
            refused(Sentences::withoutHall, "restore(" + k + "), no HALL", BAD, x -> x.restore(k));
        }
    }

    private static void restoreOfNone() {
        refused("restore(1)", STATE, x -> x.restore(1));
        refused(Sentences::withoutHall, "restore(0)", STATE, x -> x.restore(0));
        refused(Sentences::withoutHall, "restore(1)", STATE, x -> x.restore(1));
        FistTrains x = hallOf("boy0");
        x.image(1);
        due("restore(0), but 1 was kept", x.restore(0), STATE);
        due("restore(1)", x.restore(1), 1);
    }
}
