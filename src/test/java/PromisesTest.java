/** The promises of the document, one by one: ordinary inputs, the edges that it names, wrong inputs. */
public final class PromisesTest {
    private static final int NONE = -1000000, BAD = -1000001, STATE = -1000002, FULL = -1000003;
    private static final int NULL = -1000011, PLACE = -1000012, KIND = -1000013, SIZE = -1000014, STORE = -1000015;
    private static final int LEAST = Integer.MIN_VALUE, MOST = Integer.MAX_VALUE;
    private static final int[] WRONG_PLAYERS = {-1, 8, LEAST, MOST};

    private static int wrong = 0;

    private static void due(String call, long got, long want) {
        if (got != want) {
            wrong++;
            System.out.println(call + " answered " + got + ", due is " + want);
        }
    }

    private static void feed(FistTrains x, String text) {
        for (int i = 0; i < text.length(); i++) {
            due("feed", x.feed(text.charAt(i), 1), i + 1);
        }
    }

    private static int read(FistTrains x, String text) {
        feed(x, text);
        return x.hall();
    }

    /** "boy0 spy2" stands for: player boy 0; player spy 2; */
    private static FistTrains hallOf(String players) {
        FistTrains x = new FistTrains();
        due("hall of " + players, read(x, textOf(players)), players.split(" ").length);
        return x;
    }

    private static String textOf(String players) {
        StringBuilder text = new StringBuilder();
        for (String player : players.split(" ")) {
            int last = player.length() - 1;
            text.append("player ").append(player, 0, last).append(' ').append(player.charAt(last)).append(';');
        }
        return text.toString();
    }

    private static void hasHands(FistTrains x, int... hands) {
        for (int p = 0; p < hands.length; p++) {
            due("hand of " + p, x.player(p, 0), hands[p]);
        }
    }

    private static void hasLeaders(FistTrains x, int... leaders) {
        for (int p = 0; p < leaders.length; p++) {
            due("leader of " + p, x.player(p, 1), leaders[p]);
        }
    }

    public static void main(String[] args) {
        newObject();
        row();
        set();
        copy();
        copyFindings();
        drop();
        feed();
        hall();
        hallFaults();
        hallReplaces();
        fault();
        bout();
        boutTies();
        round();
        hand();
        hands();
        undo();
        player();
        beats();
        left();
        longest();
        begin();
        seek();
        fewest();
        begun();
        odds();
        gain();
        image();
        restore();
        kind();
        as();
        ask();
        trace();
        count();
        status();
        System.out.println(wrong == 0 ? "all answers are as due" : wrong + " answers are wrong");
        if (wrong > 0) {
            System.exit(1);
        }
    }

    // Promise 1
    private static void newObject() {
        FistTrains x = new FistTrains();
        due("NONE", FistTrains.NONE, NONE);
        due("BAD", FistTrains.BAD, BAD);
        due("STATE", FistTrains.STATE, STATE);
        due("FULL", FistTrains.FULL, FULL);
        for (int what = 0; what <= 6; what++) {
            due("count", x.count(what), 0);
        }
        due("no hall", x.left(0), STATE);
        due("no player", x.player(0, 0), BAD);
        due("fault", x.fault(), 0);
        due("status", x.status(), 0);
        due("trace", x.trace(0), NONE);
    }

    // Promise 2
    private static void row() {
        FistTrains x = new FistTrains();
        due("row", x.row(0, 0, 0), 0);
        due("row", x.row(7, 2, 40), 40);
        due("rows", x.count(0), 2);
        due("set", x.set(7, 39, -5), -5);
        due("row in place", x.row(7, 2, 40), 40);
        due("rows", x.count(0), 2);
        due("items are 0 anew", x.hands(7), STATE);
        int[] wrongRows = {-1, 8, LEAST, MOST};
        for (int wrongRow : wrongRows) {
            due("wrong row", x.row(wrongRow, 0, 1), BAD);
        }
        int[] wrongLanes = {-1, 3, LEAST, MOST};
        for (int wrongLane : wrongLanes) {
            due("wrong lane", x.row(0, wrongLane, 1), BAD);
        }
        due("too many", x.row(0, 0, 41), BAD);
        due("too many", x.row(0, 0, MOST), BAD);
        due("fewer than none", x.row(0, 0, -1), SIZE);
        due("fewer than none", x.row(0, 0, LEAST), SIZE);
        due("BAD ahead of SIZE", x.row(8, 0, -1), BAD);
        due("BAD ahead of SIZE", x.row(0, 3, -1), BAD);
        due("nothing else changed", x.count(0), 2);
        due("the row stands as it was", x.set(7, 39, 1), 1);
        due("itemsAreZero", itemsAreZero(), 1);
    }

    /** Items are seen by hands() alone: what is taken from a row made anew is stone. */
    private static int itemsAreZero() {
        FistTrains x = hallOf("boy2 boy2");
        x.row(0, 0, 2);
        x.set(0, 0, 1);
        x.set(0, 1, 1);
        x.row(0, 1, 3);
        due("hands", x.hands(0), 2);
        hasHands(x, 0, 0);
        return 1;
    }

    // Promise 3
    private static void set() {
        FistTrains x = new FistTrains();
        due("missing", x.set(0, 0, 1), NULL);
        due("missing ahead of place", x.set(0, -1, 1), NULL);
        x.row(0, 0, 3);
        x.row(1, 1, 3);
        x.row(2, 2, 3);
        int[] numbers = {0, 1, -1, 127, 128, -128, -129, 255, 256, 32767, 32768, -32768, -32769, 65535, LEAST, MOST};
        for (int v : numbers) {
            due("byte " + v, x.set(0, 2, v), (byte) v);
            due("short " + v, x.set(1, 0, v), (short) v);
            due("int " + v, x.set(2, 1, v), v);
        }
        int[] wrongPlaces = {-1, 3, 40, LEAST, MOST};
        for (int place : wrongPlaces) {
            due("place " + place, x.set(0, place, 1), PLACE);
        }
        int[] wrongRows = {-1, 8, LEAST, MOST};
        for (int wrongRow : wrongRows) {
            due("row " + wrongRow, x.set(wrongRow, 0, 1), BAD);
        }
        x.row(3, 2, 0);
        due("empty row", x.set(3, 0, 1), PLACE);
    }

    // Promise 4
    private static void copy() {
        FistTrains x = hallOf("boy0 boy0 boy0 boy0");
        x.row(0, 0, 4);
        x.row(1, 0, 6);
        x.set(0, 0, 1);
        x.set(0, 1, 2);
        x.set(0, 2, 0);
        x.set(0, 3, 1);
        due("copy", x.copy(0, 1, 1, 0, 3), 3);
        due("hands", x.hands(1), 2);
        hasHands(x, 2, 0, 1, 0);
        due("to behind itself", x.copy(0, 0, 0, 1, 3), 3);
        due("hands", x.hands(0), 3);
        hasHands(x, 1, 1, 2, 0);
        due("to ahead of itself", x.copy(0, 1, 0, 0, 3), 3);
        x.hands(0);
        hasHands(x, 1, 2, 0, 0);
        due("none", x.copy(0, 4, 1, 6, 0), 0);
        due("all", x.copy(0, 0, 1, 2, 4), 4);
        x.hands(1);
        hasHands(x, 2, 0, 1, 2);
    }

    private static void copyFindings() {
        FistTrains x = new FistTrains();
        x.row(0, 0, 4);
        x.row(1, 0, 4);
        x.row(2, 1, 4);
        due("missing", x.copy(0, 0, 3, 0, 1), NULL);
        due("missing", x.copy(3, 0, 0, 0, 1), NULL);
        due("missing ahead of place", x.copy(3, -1, 0, 0, 1), NULL);
        due("two lanes", x.copy(0, 0, 2, 0, 0), STORE);
        due("two lanes ahead of place", x.copy(0, -1, 2, 0, 9), STORE);
        int[][] places = {
            {-1, 0, 1}, {0, -1, 1}, {0, 0, -1}, {0, 0, 5}, {1, 0, 4}, {0, 1, 4}, {5, 0, 0}, {0, 5, 0},
            {LEAST, 0, 1}, {0, LEAST, 1}, {0, 0, LEAST}, {MOST, 0, 1}, {0, MOST, 1}, {1, 1, MOST}, {MOST, MOST, MOST},
        };
        for (int[] p : places) {
            due("place", x.copy(0, p[0], 1, p[1], p[2]), PLACE);
        }
        int[] wrongRows = {-1, 8, LEAST, MOST};
        for (int wrongRow : wrongRows) {
            due("row", x.copy(wrongRow, 0, 3, 0, 1), BAD);
            due("row", x.copy(3, 0, wrongRow, 0, 1), BAD);
        }
    }

    // Promise 5
    private static void drop() {
        FistTrains x = new FistTrains();
        x.row(4, 1, 13);
        due("drop", x.drop(4), 13);
        due("rows", x.count(0), 0);
        due("gone", x.drop(4), NULL);
        due("gone", x.set(4, 0, 1), NULL);
        int[] wrongRows = {-1, 8, LEAST, MOST};
        for (int wrongRow : wrongRows) {
            due("row", x.drop(wrongRow), BAD);
        }
        due("again", x.row(4, 0, 2), 2);
        due("rows", x.count(0), 1);
    }

    // Promise 6
    private static void feed() {
        FistTrains x = new FistTrains();
        int[] wrongNumbers = {0, 9, -1, LEAST, MOST};
        for (int n : wrongNumbers) {
            due("feed", x.feed(1, n), BAD);
        }
        due("highest first", x.feed(0x21706c6179657220L, 7), 7);
        due("highest first", x.feed(0x626f7920323bL, 6), 13);
        due("bytes", x.count(6), 13);
        due("hall", x.hall(), 1);
        due("hand", x.player(0, 0), 2);
        for (int i = 1; i <= 24; i++) {
            due("feed", x.feed(-1L, 8), 8 * i);
        }
        due("feed", x.feed(0, 7), 199);
        due("none comes", x.feed(0, 2), FULL);
        due("bytes", x.count(6), 199);
        due("BAD ahead of FULL", x.feed(0, 9), BAD);
        due("the last", x.feed(0, 1), 200);
        due("full", x.feed(0, 1), FULL);
        due("hall", x.hall(), -1000100);
        due("the tape is empty", x.count(6), 0);
    }

    // Promise 7
    private static void hall() {
        FistTrains x = hallOf("boy0 steady1 teacher2 mirror0 spy1");
        hasHands(x, 0, 1, 2, 0, 1);
        hasLeaders(x, 0, 1, 2, 3, 4);
        for (int p = 0; p < 5; p++) {
            due("train", x.player(p, 2), 1);
            due("kind", x.kind(p), p + 1);
        }
        due("blanks", read(x, " \n player\n boy\n\n0 ;\n player  spy 2; \n"), 2);
        due("no blanks between", read(x, "player boy0;player spy2;"), 2);
        due("figures ahead", read(x, "player boy 002;player boy 000;player boy 01;"), 3);
        hasHands(x, 2, 0, 1);
        due("eight", read(x, "player boy0;".repeat(8)), 8);
    }

    private static void faultDue(String text, int number, int place) {
        FistTrains x = hallOf("spy1 spy1");
        due("hall of " + text, read(x, text), -1000100 - place);
        due("fault of " + text, x.fault(), number);
        due("players behind " + text, x.count(1), 2);
        due("tape behind " + text, x.count(6), 0);
    }

    private static void hallFaults() {
        faultDue("", 1, 0);
        faultDue(" \n ", 1, 3);
        faultDue("player", 1, 6);
        faultDue("player ", 1, 7);
        faultDue("player boy", 1, 10);
        faultDue("player boy 0", 1, 12);
        faultDue("player boy 0 \n", 1, 14);
        faultDue("boy 0;", 1, 0);
        faultDue("players boy 0;", 1, 0);
        faultDue("playerz boy 0;", 1, 0);
        faultDue("aplayer boy 0;", 1, 0);
        faultDue("slayer boy 0;", 1, 0);
        faultDue("playet boy 0;", 1, 0);
        faultDue("player{boy 0;", 1, 6);
        faultDue("player`boy 0;", 1, 6);
        faultDue("player toy 0;", 1, 7);
        faultDue("player spx 0;", 1, 7);
        faultDue("player boy 0:;", 1, 12);
        faultDue("player boy 0/;", 1, 12);
        faultDue("playe boy 0;", 1, 0);
        faultDue("playerboy 0;", 1, 0);
        faultDue("Player boy 0;", 1, 0);
        faultDue("player boys 0;", 1, 7);
        faultDue("player bo 0;", 1, 7);
        faultDue("player player 0;", 1, 7);
        faultDue("player 0;", 1, 7);
        faultDue("player;", 1, 6);
        faultDue("player boY 0;", 1, 7);
        faultDue("player boy;", 1, 10);
        faultDue("player boy boy;", 1, 11);
        faultDue("player boy -1;", 1, 11);
        faultDue("player boy 3;", 2, 11);
        faultDue("player boy 999", 2, 11);
        faultDue("player boy 003;", 2, 11);
        faultDue("player boy 0000;", 1, 11);
        faultDue("player boy 99999999999999999999;", 1, 11);
        faultDue("player boy 0 0;", 1, 13);
        faultDue("player boy 0,", 1, 12);
        faultDue("player boy 0player boy 0;", 1, 12);
        faultDue("player boy 0;;", 1, 13);
        faultDue("player boy 0; x", 1, 14);
        faultDue("player boy 0; 1", 1, 14);
        faultDue("player boy 0; player", 1, 20);
        faultDue("player\tboy 0;", 1, 6);
        faultDue("player boy 0;" + (char) 0, 1, 13);
        faultDue("player boy 0;" + (char) 160, 1, 13);
        faultDue("player boy 0;" + (char) 255, 1, 13);
        faultDue("player boy0;".repeat(8) + "player", 3, 96);
        faultDue("player boy0;".repeat(8) + "player boy 9;", 3, 96);
        faultDue("player boy0;".repeat(8) + "boy", 1, 96);
        faultDue("player boy0;".repeat(8) + " ;", 1, 97);
    }

    private static void hallReplaces() {
        FistTrains x = hallOf("boy0 boy0 boy1");
        x.row(0, 0, 3);
        x.image(0);
        x.round();
        due("faulty", read(x, "player"), -1000106);
        due("round stays", x.count(3), 1);
        due("acts stay", x.count(5), 1);
        due("leads", x.count(2), 2);
        due("hall", read(x, "player spy 2;"), 1);
        due("players", x.count(1), 1);
        due("round", x.count(3), 0);
        due("time", x.count(4), 0);
        due("acts", x.count(5), 0);
        due("undo", x.undo(), STATE);
        due("rows stay", x.count(0), 1);
        due("images stay", x.restore(0), 1);
        due("players", x.count(1), 3);
    }

    // Promise 8
    private static void fault() {
        FistTrains x = new FistTrains();
        due("fault", x.fault(), 0);
        read(x, "player boy 3;");
        due("fault", x.fault(), 2);
        read(x, "player boy 0;");
        due("the latest", x.fault(), 2);
        read(x, "player");
        due("fault", x.fault(), 1);
    }

    // Promise 9
    private static void bout() {
        FistTrains x = hallOf("steady0 steady1 steady2 boy1");
        due("paper beats stone", x.bout(0, 1), 1);
        due("time", x.count(4), 1);
        due("no round", x.count(3), 0);
        hasLeaders(x, 1, 1, 2, 3);
        due("scissors beat paper", x.bout(1, 2), 2);
        hasLeaders(x, 2, 2, 2, 3);
        due("the whole train", x.player(0, 2), 3);
        due("one who does not lead", x.bout(1, 3), STATE);
        due("one who does not lead", x.bout(3, 1), STATE);
        due("alike", x.bout(1, 1), BAD);
        due("alike", x.bout(2, 2), BAD);
        for (int p : WRONG_PLAYERS) {
            due("player", x.bout(p, 2), BAD);
            due("player", x.bout(1, p), BAD);
        }
        due("no such player", x.bout(4, 0), BAD);
        due("scissors beat paper", x.bout(3, 2), 2);
        due("leads alone", x.count(2), 1);
        due("time", x.count(4), 3);
        FistTrains y = hallOf("steady2 steady0");
        due("stone beats scissors", y.bout(0, 1), 1);
        FistTrains z = hallOf("spy1 boy1");
        due("a spy", z.bout(0, 1), 0);
        hasHands(z, 2, 1);
        FistTrains w = hallOf("spy0 spy2");
        due("two spies", w.bout(1, 0), 1);
        hasHands(w, 0, 1);
    }

    private static void boutTies() {
        FistTrains x = hallOf("boy1 teacher1");
        due("boy and teacher", x.bout(0, 1), 1);
        hasHands(x, 2, 0);
        due("time", x.count(4), 2);
        FistTrains y = hallOf("boy0 boy0");
        due("boy and boy", y.bout(1, 0), 0);
        hasHands(y, 2, 2);
        due("time", y.count(4), 9);
        FistTrains z = hallOf("teacher0 teacher0");
        due("teacher and teacher", z.bout(0, 1), 0);
        hasHands(z, 0, 0);
        FistTrains w = hallOf("steady2 mirror2");
        due("steady and mirror", w.bout(0, 1), 1);
        hasHands(w, 2, 0);
        FistTrains v = hallOf("steady2 spy1");
        due("a spy's own hand is not looked at", v.bout(0, 1), 1);
        hasHands(v, 2, 0);
        FistTrains u = hallOf("spy1 spy1");
        due("spies who tie", u.bout(0, 1), 0);
        hasHands(u, 1, 1);
        FistTrains t = hallOf("steady0 steady0 steady2");
        due("a train", t.bout(1, 2), 1);
        due("the longer train", t.bout(0, 1), 1);
        due("time", t.count(4), 10);
        FistTrains s = hallOf("steady0 teacher2 boy2");
        due("teacher and boy", s.bout(1, 2), 1);
        hasHands(s, 0, 0, 2);
        due("time", s.count(4), 4);
    }

    // Promise 10
    private static void round() {
        FistTrains x = hallOf("steady0 steady1 boy0 boy0 steady2");
        due("round", x.round(), 3);
        hasLeaders(x, 1, 1, 2, 2, 4);
        due("round", x.count(3), 1);
        due("the most throws", x.count(4), 9);
        due("round", x.round(), 2);
        hasLeaders(x, 2, 2, 2, 2, 4);
        hasHands(x, 0, 1, 2, 2, 2);
        due("round", x.round(), 1);
        due("by trains", x.player(4, 1), 2);
        due("round", x.count(3), 3);
        due("alone", x.round(), STATE);
        due("acts", x.count(5), 3);
        due("no hall", new FistTrains().round(), STATE);
    }

    // Promise 11
    private static void hand() {
        FistTrains x = hallOf("boy0 steady1");
        due("hand", x.hand(0, 2), 0);
        due("the same", x.hand(0, 2), 2);
        due("acts", x.count(5), 2);
        int[] wrongHands = {-1, 3, LEAST, MOST};
        for (int hand : wrongHands) {
            due("hand", x.hand(0, hand), BAD);
        }
        for (int p : WRONG_PLAYERS) {
            due("player", x.hand(p, 0), BAD);
        }
        due("player", x.hand(2, 0), BAD);
        x.round();
        due("of one who does not lead, too", x.hand(1, 0), 1);
        due("hand", x.player(1, 0), 0);
        due("no hall", new FistTrains().hand(0, 0), BAD);
    }

    // Promise 12
    private static void hands() {
        FistTrains x = new FistTrains();
        due("no hall", x.hands(0), STATE);
        due("no hall ahead of BAD", x.hands(8), STATE);
        read(x, textOf("boy0 boy1 boy2"));
        for (int row : new int[] {-1, 8, LEAST, MOST}) {
            due("row", x.hands(row), BAD);
        }
        due("missing", x.hands(0), NULL);
        x.row(0, 2, 2);
        due("too few", x.hands(0), PLACE);
        x.set(0, 0, 3);
        due("too few ahead of no hand", x.hands(0), PLACE);
        x.row(0, 2, 4);
        x.set(0, 0, 2);
        x.set(0, 3, 77);
        due("hands", x.hands(0), 3);
        hasHands(x, 2, 0, 0);
        due("none other", x.hands(0), 0);
        due("acts", x.count(5), 2);
        for (int hand : new int[] {-1, 3, LEAST, MOST}) {
            x.set(0, 2, hand);
            due("no hand", x.hands(0), BAD);
        }
        due("nothing changed", x.count(5), 2);
        hasHands(x, 2, 0, 0);
        due("one act", x.undo(), 1);
        due("one act", x.undo(), 0);
        hasHands(x, 0, 1, 2);
    }

    // Promise 13
    private static void undo() {
        FistTrains x = hallOf("boy0 boy0 boy1 spy2");
        due("none", x.undo(), STATE);
        x.bout(0, 3);
        x.round();
        x.hand(2, 0);
        due("undo", x.undo(), 2);
        due("hand", x.player(2, 0), 1);
        due("undo", x.undo(), 1);
        due("round", x.count(3), 0);
        due("time", x.count(4), 1);
        hasLeaders(x, 3, 1, 2, 3);
        due("undo", x.undo(), 0);
        due("time", x.count(4), 0);
        hasLeaders(x, 0, 1, 2, 3);
        hasHands(x, 0, 0, 1, 2);
        due("none", x.undo(), STATE);
        for (int i = 1; i <= 30; i++) {
            x.hand(0, i % 3);
            due("acts", x.count(5), Math.min(i, 24));
        }
        for (int i = 29; i >= 6; i--) {
            due("undo", x.undo(), i - 6);
            due("hand", x.player(0, 0), i % 3);
        }
        due("the oldest are forgotten", x.undo(), STATE);
    }

    // Promise 14
    private static void player() {
        FistTrains x = hallOf("steady0 steady1");
        due("hand", x.player(1, 0), 1);
        due("leader", x.player(0, 1), 0);
        due("train", x.player(0, 2), 1);
        x.round();
        due("leader", x.player(0, 1), 1);
        due("train", x.player(0, 2), 2);
        due("train", x.player(1, 2), 2);
        for (int what : new int[] {-1, 3, LEAST, MOST}) {
            due("what", x.player(0, what), BAD);
        }
        for (int p : WRONG_PLAYERS) {
            due("player", x.player(p, 0), BAD);
        }
        due("player", x.player(2, 0), BAD);
    }

    // Promise 15
    private static void beats() {
        FistTrains x = hallOf("boy1 teacher1 steady0");
        due("who", x.beats(0, 1, 0), 1);
        due("throws", x.beats(0, 1, 1), 2);
        due("throws", x.beats(1, 0, 1), 2);
        due("nothing changes", x.count(5), 0);
        hasHands(x, 1, 1, 0);
        hasLeaders(x, 0, 1, 2);
        due("alike", x.beats(1, 1, 0), BAD);
        due("what", x.beats(0, 1, 2), BAD);
        due("what", x.beats(0, 1, -1), BAD);
        for (int p : WRONG_PLAYERS) {
            due("player", x.beats(0, p, 0), BAD);
            due("player", x.beats(p, 0, 0), BAD);
        }
        x.bout(0, 2);
        due("one does not lead", x.beats(1, 2, 0), STATE);
        due("one does not lead", x.beats(2, 1, 0), STATE);
        due("BAD ahead of STATE", x.beats(2, 1, 2), BAD);
    }

    // Promise 16
    private static void left() {
        FistTrains none = new FistTrains();
        due("no hall", none.left(0), STATE);
        due("no hall ahead of BAD", none.left(3), STATE);
        FistTrains x = hallOf("steady0 steady1 boy0 boy0 steady2");
        due("who", x.left(0), 2);
        due("rounds", x.left(1), 3);
        due("time", x.left(2), 9 + 1 + 2);
        due("nothing changes", x.count(3), 0);
        due("what", x.left(3), BAD);
        due("what", x.left(-1), BAD);
        x.round();
        due("who", x.left(0), 2);
        due("rounds from now on", x.left(1), 2);
        due("time from now on", x.left(2), 3);
        x.round();
        x.round();
        due("who", x.left(0), 2);
        due("alone", x.left(1), 0);
        due("alone", x.left(2), 0);
    }

    // Promise 17
    private static void longest() {
        FistTrains none = new FistTrains();
        due("no hall", none.longest(0, 0), STATE);
        due("no hall ahead of BAD", none.longest(10, 2), STATE);
        FistTrains x = hallOf("steady0 steady1 boy0 boy0 steady2");
        int[][] dues = {{1, 0}, {2, 1}, {4, 2}, {5, 2}, {5, 2}};
        for (int n = 0; n < dues.length; n++) {
            due("how many", x.longest(n, 0), dues[n][0]);
            due("who", x.longest(n, 1), dues[n][1]);
        }
        due("nine rounds", x.longest(9, 0), 5);
        for (int n : new int[] {-1, 10, LEAST, MOST}) {
            due("rounds", x.longest(n, 0), BAD);
        }
        due("what", x.longest(0, 2), BAD);
        due("what", x.longest(0, -1), BAD);
        due("nothing changes", x.count(3), 0);
    }

    // Promise 18
    private static void begin() {
        FistTrains x = hallOf("steady0 steady1 steady0 steady2");
        due("to be left", x.begin(0), 1);
        due("longest", x.begin(3), 1);
        due("longest", x.begin(1), 1);
        FistTrains y = hallOf("boy2 spy0");
        due("of several the least", y.begin(0), 0);
        due("nothing changes", y.player(0, 0), 2);
        y.round();
        due("does not lead", y.begin(0), STATE);
        for (int p : WRONG_PLAYERS) {
            due("player", y.begin(p), BAD);
        }
        due("no hall", new FistTrains().begin(0), BAD);
        due("alone", hallOf("boy2").begin(0), 0);
    }

    // Promise 19
    private static void seek() {
        FistTrains x = hallOf("steady0 steady2 steady2");
        due("seek", x.seek(0), 6);
        due("seek", x.seek(1), 0);
        due("seek", x.seek(2), 0);
        FistTrains z = hallOf("steady2 steady1 steady0 steady2");
        due("one of two whom he beats", z.seek(2), 8);
        FistTrains y = hallOf("spy0 boy0 boy1 boy2");
        due("all others", y.seek(0), 14);
        due("nothing changes", y.count(2), 4);
        y.bout(0, 2);
        due("who leads", y.seek(0), 10);
        due("does not lead", y.seek(2), STATE);
        for (int p : WRONG_PLAYERS) {
            due("player", y.seek(p), BAD);
        }
        due("alone", hallOf("boy2").seek(0), 0);
    }

    // Promise 20
    private static void fewest() {
        FistTrains x = hallOf("steady1 steady1");
        due("none", x.fewest(0, -1), 0);
        due("how many", x.fewest(1, -1), 1);
        due("the first row", x.fewest(1, 0), 0);
        due("the first row", x.fewest(1, 1), 1);
        for (int k : new int[] {-2, 2, 8, LEAST, MOST}) {
            due("k", x.fewest(0, k), BAD);
        }
        for (int p : WRONG_PLAYERS) {
            due("player", x.fewest(p, -1), BAD);
        }
        FistTrains y = hallOf("spy0 boy0 boy2");
        due("never", y.fewest(1, -1), NONE);
        due("never", y.fewest(1, 2), NONE);
        y.bout(0, 2);
        due("does not lead", y.fewest(2, -1), STATE);
        due("BAD ahead of STATE", y.fewest(2, 3), BAD);
        due("one who does not lead, as it is", y.fewest(0, 2), 2);
        FistTrains z = hallOf("steady0 steady0 steady0 steady0");
        z.bout(2, 3);
        due("how many", z.fewest(1, -1), 1);
        due("hands", z.fewest(1, 0), 0);
        due("hands", z.fewest(1, 1), 1);
        due("hands", z.fewest(1, 2), 0);
        due("hands", z.fewest(1, 3), 0);
    }

    // Promise 21
    private static void begun() {
        FistTrains x = hallOf("steady1 steady1 steady1");
        due("begun", x.begun(0, 0), 6);
        due("begun", x.begun(0, 1), 1);
        due("begun", x.begun(2, 2), 4);
        due("begun", x.begun(2, 0), 3);
        x.round();
        due("does not lead", x.begun(1, 0), STATE);
        due("does not lead", x.begun(0, 1), STATE);
        for (int p : WRONG_PLAYERS) {
            due("player", x.begun(p, 1), BAD);
            due("player", x.begun(1, p), BAD);
        }
        due("nothing changes", x.player(0, 0), 1);
    }

    // Promise 22
    private static void odds() {
        FistTrains x = new FistTrains();
        due("above", x.odds(0, 1, 6, 2, 0), 1);
        due("below", x.odds(0, 1, 6, 2, 1), 4);
        due("above", x.odds(1, 1, 6, 2, 0), 1);
        due("below", x.odds(1, 1, 6, 2, 1), 3);
        due("above", x.odds(2, 1, 6, 2, 0), 6);
        due("below", x.odds(2, 1, 6, 2, 1), 7);
        due("0 by 1", x.odds(0, 4, 5, 0, 0), 0);
        due("0 by 1", x.odds(0, 4, 5, 0, 1), 1);
        due("ties alone", x.odds(0, 9, 0, 0, 0), NONE);
        due("ties alone", x.odds(0, 9, 0, 0, 1), NONE);
        int[][] wrongOdds = {{3, 3, 2}, {3, 3, 4}, {-1, 5, 5}, {5, -1, 5}, {5, 5, -1}, {10, 0, -1}, {0, 0, 0},
            {LEAST, LEAST, 9}, {MOST, MOST, 11}};
        for (int[] o : wrongOdds) {
            due("odds", x.odds(0, o[0], o[1], o[2], 0), BAD);
            due("gain", x.gain(o[0], o[1], o[2]), BAD);
        }
        for (int wrongHand : new int[] {-1, 3, LEAST, MOST}) {
            due("hand", x.odds(wrongHand, 3, 3, 3, 0), BAD);
        }
        for (int what : new int[] {-1, 2, LEAST, MOST}) {
            due("what", x.odds(0, 3, 3, 3, what), BAD);
            due("what ahead of NONE", x.odds(0, 9, 0, 0, what), BAD);
        }
    }

    // Promise 23
    private static void gain() {
        FistTrains x = new FistTrains();
        due("against stone", x.gain(9, 0, 0), 1);
        due("against paper", x.gain(0, 9, 0), 2);
        due("against scissors", x.gain(0, 0, 9), 0);
        due("of several the least", x.gain(3, 3, 3), 0);
        due("gain", x.gain(1, 6, 2), 2);
        due("gain", x.gain(5, 0, 4), 0);
        due("gain", x.gain(4, 1, 4), 0);
        due("gain", x.gain(4, 4, 1), 1);
        due("gain", x.gain(5, 3, 1), 1);
    }

    // Promise 24
    private static void image() {
        FistTrains x = new FistTrains();
        due("no hall", x.image(0), STATE);
        for (int k : new int[] {-1, 2, LEAST, MOST}) {
            due("k ahead of no hall", x.image(k), BAD);
            due("k", x.restore(k), BAD);
        }
        read(x, textOf("boy0 boy1"));
        due("image", x.image(1), 1);
        due("the other one", x.restore(0), STATE);
        due("restore", x.restore(1), 1);
    }

    // Promise 25
    private static void restore() {
        FistTrains x = hallOf("boy0 boy0 spy1");
        x.round();
        x.image(0);
        x.round();
        due("acts", x.count(5), 2);
        due("restore", x.restore(0), 1);
        due("acts", x.count(5), 0);
        due("round", x.count(3), 1);
        due("time", x.count(4), 9);
        hasLeaders(x, 0, 0, 2);
        hasHands(x, 2, 2, 1);
        read(x, textOf("mirror1"));
        x.image(1);
        x.restore(0);
        due("players", x.count(1), 3);
        due("kind", x.kind(2), 5);
        x.hand(0, 0);
        x.restore(0);
        hasHands(x, 2, 2, 1);
        x.restore(1);
        due("players", x.count(1), 1);
        due("kind", x.kind(0), 4);
        due("round", x.count(3), 0);
    }

    // Promise 26
    private static void kind() {
        FistTrains x = hallOf("spy0 mirror0 teacher0 steady0 boy0");
        for (int p = 0; p < 5; p++) {
            due("kind", x.kind(p), 5 - p);
        }
        for (int p : WRONG_PLAYERS) {
            due("player", x.kind(p), BAD);
        }
        due("player", x.kind(5), BAD);
    }

    // Promise 27
    private static void as() {
        FistTrains x = hallOf("boy0 steady0 teacher0 mirror0 spy0");
        String[] kinds = {"01", "012", "013", "04", "045"};
        for (int p = 0; p < 5; p++) {
            for (int kind = 0; kind <= 5; kind++) {
                boolean is = kinds[p].indexOf('0' + kind) >= 0;
                due("as", x.as(p, kind), is ? p : KIND);
                due("status", x.status(), is ? 0 : 3);
            }
        }
        for (int kind : new int[] {-1, 6, LEAST, MOST}) {
            due("kind", x.as(0, kind), BAD);
        }
        for (int p : WRONG_PLAYERS) {
            due("player", x.as(p, 0), BAD);
        }
    }

    // Promise 28
    private static void ask() {
        FistTrains x = hallOf("boy2 steady2 teacher2 mirror2 spy2");
        asked(x, 0, 0, 1 + 2, 11, 10, 21, 20);
        asked(x, 0, 1, 2, 21, 20);
        asked(x, 1, 0, -(1 + 6), 12, 11, 10, 24, 21, 20);
        asked(x, 1, 1, 6, 24, 21, 20);
        asked(x, 2, 0, 1 + 4 - 1000, 11, 10, 22, 21, 20);
        asked(x, 2, 1, 4 - 1000, 22, 21, 20);
        asked(x, 3, 0, -99, 13, 10);
        asked(x, 3, 1, 3 + 99, 23, 20, 13, 10);
        asked(x, 4, 0, -198, 14, 13, 10);
        asked(x, 4, 1, 4 + 198, 23, 20, 14, 13, 10);
        x.bout(4, 0);
        x.bout(4, 3);
        asked(x, 0, 0, 3 + 2, 11, 10, 21, 20);
        asked(x, 3, 0, -97, 13, 10);
        asked(x, 4, 1, 4 + 194, 23, 20, 14, 13, 10);
        due("what", x.ask(0, 2), BAD);
        due("what", x.ask(0, -1), BAD);
        for (int p : WRONG_PLAYERS) {
            due("player", x.ask(p, 0), BAD);
        }
        due("the trace stays", x.trace(4), 10);
    }

    private static void asked(FistTrains x, int player, int what, int answer, int... trace) {
        due("ask(" + player + ", " + what + ")", x.ask(player, what), answer);
        for (int i = 0; i < trace.length; i++) {
            due("trace", x.trace(i), trace[i]);
        }
        due("the trace's end", x.trace(trace.length), NONE);
    }

    // Promise 29
    private static void trace() {
        FistTrains x = hallOf("boy0");
        due("none yet", x.trace(0), NONE);
        x.ask(0, 1);
        due("trace", x.trace(0), 21);
        due("trace", x.trace(1), 20);
        for (int i : new int[] {2, 15, 16, 17, -1, LEAST, MOST}) {
            due("trace", x.trace(i), NONE);
        }
        read(x, textOf("boy1"));
        due("a hall leaves it", x.trace(0), 21);
    }

    // Promise 30
    private static void count() {
        FistTrains x = hallOf("boy0 boy1 boy2");
        x.row(3, 0, 1);
        x.bout(0, 1);
        x.round();
        x.feed(0, 5);
        int[] dues = {1, 3, 1, 1, 2, 2, 5};
        for (int what = 0; what < dues.length; what++) {
            due("count(" + what + ")", x.count(what), dues[what]);
        }
        for (int what : new int[] {-1, 7, LEAST, MOST}) {
            due("count", x.count(what), BAD);
        }
    }

    // Promise 31
    private static void status() {
        FistTrains x = hallOf("boy0 boy1");
        due("none yet", x.status(), 0);
        x.set(0, 0, 0);
        due("NULL", x.status(), 1);
        x.row(8, 0, 0);
        x.row(0, 3, 0);
        x.set(-1, 0, 0);
        x.copy(8, 0, 0, 0, 0);
        x.drop(8);
        x.hands(8);
        x.as(0, 6);
        x.as(2, 0);
        due("BAD leaves it", x.status(), 1);
        x.round();
        x.ask(0, 0);
        x.count(0);
        due("other calls leave it", x.status(), 1);
        x.row(0, 0, -1);
        due("SIZE", x.status(), 4);
        x.row(0, 0, 1);
        due("none", x.status(), 0);
        x.set(0, 1, 0);
        due("PLACE", x.status(), 2);
        x.set(0, 0, 0);
        due("none", x.status(), 0);
        x.row(1, 1, 1);
        x.copy(0, 0, 1, 0, 1);
        due("STORE", x.status(), 5);
        x.copy(0, 0, 0, 0, 1);
        due("none", x.status(), 0);
        x.hands(0);
        due("PLACE of hands", x.status(), 2);
        x.row(0, 0, 2);
        x.as(0, 5);
        due("KIND", x.status(), 3);
        x.set(0, 1, 3);
        x.drop(7);
        due("NULL", x.status(), 1);
        x.hands(0);
        due("an item that is no hand leaves it", x.status(), 1);
        x.set(0, 1, 2);
        x.drop(7);
        x.hands(0);
        due("none", x.status(), 0);
        x.drop(7);
        x.drop(0);
        due("none", x.status(), 0);
        x.drop(0);
        x.as(0, 0);
        due("none", x.status(), 0);
        x.drop(0);
        FistTrains y = new FistTrains();
        y.drop(0);
        y.hands(0);
        due("STATE leaves it", y.status(), 1);
    }
}
