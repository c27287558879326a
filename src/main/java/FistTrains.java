/** Fists in a hall: who loses goes behind the winner, with all who were behind him. */
public final class FistTrains {
    public static final int NONE = -1000000, BAD = -1000001, STATE = -1000002, FULL = -1000003;

    private static final int FOUND = -1000010;
    private static final int NULL = 1, PLACE = 2, KIND = 3, SIZE = 4, STORE = 5;
    private static final int FAULTY = -1000100;

    private static final int ROOM = 8;
    private static final int HANDS = 3;
    private static final int MOST_THROWS = 9;
    private static final int MOST_ROUNDS = 9;
    private static final int ALL_ODDS = 9;
    private static final int IMAGES = 2;

    private static final int PLAYER = 0, BOY = 1, STEADY = 2, TEACHER = 3, MIRROR = 4, SPY = 5;

    private final Rows rows;
    private final Tape tape;
    private final Reader reader;
    private final Hall now;
    private final Hall trial;
    private final Acts acts;
    private final Ways ways;
    private final Asks asks;
    private final int[] images;
    private final boolean[] imageKept;
    private int latestFault;
    private int latestFinding;

    public FistTrains() {
        rows = new Rows();
        tape = new Tape();
        reader = new Reader(tape);
        now = new Hall();
        trial = new Hall();
        acts = new Acts();
        ways = new Ways();
        asks = new Asks();
        images = new int[IMAGES * Hall.WIDTH];
        imageKept = new boolean[IMAGES];
        latestFault = 0;
        latestFinding = 0;
    }

    // ---- rows

    public int row(int row, int lane, int n) {
        if (!isRow(row) || lane < 0 || lane > Rows.INTS || n > Rows.MOST_ITEMS) {
            return BAD;
        }
        if (n < 0) {
            return found(SIZE);
        }
        rows.make(row, lane, n);
        return fine(n);
    }

    public int set(int row, int i, int v) {
        if (!isRow(row)) {
            return BAD;
        }
        if (rows.isMissing(row)) {
            return found(NULL);
        }
        if (i < 0 || i >= rows.size[row]) {
            return found(PLACE);
        }
        return fine(rows.put(row, i, v));
    }

    public int copy(int a, int i, int b, int j, int n) {
        if (!isRow(a) || !isRow(b)) {
            return BAD;
        }
        if (rows.isMissing(a) || rows.isMissing(b)) {
            return found(NULL);
        }
        if (rows.lane[a] != rows.lane[b]) {
            return found(STORE);
        }
        if (!rows.hasPlaces(a, i, n) || !rows.hasPlaces(b, j, n)) {
            return found(PLACE);
        }
        System.arraycopy(rows.items, rows.placeOf(a, i), rows.items, rows.placeOf(b, j), n);
        return fine(n);
    }

    public int drop(int row) {
        if (!isRow(row)) {
            return BAD;
        }
        if (rows.isMissing(row)) {
            return found(NULL);
        }
        return fine(rows.remove(row));
    }

    private static boolean isRow(int row) {
        return row >= 0 && row < Rows.MOST_ROWS;
    }

    private int found(int finding) {
        latestFinding = finding;
        return FOUND - finding;
    }

    private int fine(int answer) {
        latestFinding = 0;
        return answer;
    }

    // ---- halls, acts

    public int feed(long w, int n) {
        if (n < 1 || n > 8) {
            return BAD;
        }
        if (!tape.hasRoom(n)) {
            return FULL;
        }
        tape.add(w, n);
        return tape.length;
    }

    public int hall() {
        int fault = reader.read(trial);
        tape.length = 0;
        if (fault != 0) {
            latestFault = fault;
            return FAULTY - reader.start;
        }
        now.become(trial);
        acts.forget();
        return now.players;
    }

    public int fault() {
        return latestFault;
    }

    public int bout(int a, int b) {
        if (!isPair(a, b)) {
            return BAD;
        }
        if (!now.leads(a) || !now.leads(b)) {
            return STATE;
        }
        acts.keep(now);
        int winner = now.meet(a, b);
        now.time += now.course.thrown;
        return winner;
    }

    public int round() {
        if (now.leaders() < 2) {
            return STATE;
        }
        acts.keep(now);
        now.playRound();
        return now.leaders();
    }

    public int hand(int player, int hand) {
        if (!isPlayer(player) || !isHand(hand)) {
            return BAD;
        }
        acts.keep(now);
        int before = now.hand[player];
        now.hand[player] = hand;
        return before;
    }

    public int hands(int row) {
        if (now.isMissing()) {
            return STATE;
        }
        if (!isRow(row)) {
            return BAD;
        }
        if (rows.isMissing(row)) {
            return found(NULL);
        }
        if (rows.size[row] < now.players) {
            return found(PLACE);
        }
        for (int p = 0; p < now.players; p++) {
            if (!isHand(rows.itemOf(row, p))) {
                return BAD;
            }
        }
        acts.keep(now);
        return fine(takeHands(row));
    }

    private int takeHands(int row) {
        int others = 0;
        for (int p = 0; p < now.players; p++) {
            int hand = rows.itemOf(row, p);
            if (now.hand[p] != hand) {
                others++;
            }
            now.hand[p] = hand;
        }
        return others;
    }

    public int undo() {
        if (acts.kept == 0) {
            return STATE;
        }
        acts.takeBack(now);
        return acts.kept;
    }

    public int player(int player, int what) {
        if (!isPlayer(player)) {
            return BAD;
        }
        switch (what) {
            case 0:
                return now.hand[player];
            case 1:
                return now.leader[player];
            case 2:
                return now.trainOf(player);
            default:
                return BAD;
        }
    }

    private boolean isPlayer(int player) {
        return player >= 0 && player < now.players;
    }

    private boolean isPair(int a, int b) {
        return isPlayer(a) && isPlayer(b) && a != b;
    }

    private static boolean isHand(int hand) {
        return hand >= 0 && hand < HANDS;
    }

    // ---- foretold

    public int beats(int a, int b, int what) {
        if (!isPair(a, b) || what < 0 || what > 1) {
            return BAD;
        }
        if (!now.leads(a) || !now.leads(b)) {
            return STATE;
        }
        int winner = now.foretell(a, b);
        return what == 0 ? winner : now.course.thrown;
    }

    public int left(int what) {
        if (now.isMissing()) {
            return STATE;
        }
        trial.become(now);
        trial.playToTheEnd();
        switch (what) {
            case 0:
                return trial.leader[0];
            case 1:
                return trial.round - now.round;
            case 2:
                return trial.time - now.time;
            default:
                return BAD;
        }
    }

    public int longest(int n, int what) {
        if (now.isMissing()) {
            return STATE;
        }
        if (n < 0 || n > MOST_ROUNDS || what < 0 || what > 1) {
            return BAD;
        }
        trial.become(now);
        for (int i = 0; i < n && trial.leaders() > 1; i++) {
            trial.playRound();
        }
        int who = trial.longestTrain();
        return what == 0 ? trial.trainOf(who) : who;
    }

    public int begin(int player) {
        if (!isPlayer(player)) {
            return BAD;
        }
        if (!now.leads(player)) {
            return STATE;
        }
        int best = 0;
        int most = -1;
        for (int hand = 0; hand < HANDS; hand++) {
            tryHand(player, hand);
            int led = trial.roundsLed(player);
            if (led > most) {
                most = led;
                best = hand;
            }
        }
        return best;
    }

    public int seek(int player) {
        if (!isPlayer(player)) {
            return BAD;
        }
        if (!now.leads(player)) {
            return STATE;
        }
        int bits = 0;
        for (int other = 0; other < now.players; other++) {
            if (other != player && now.leads(other)) {
                trial.become(now);
                trial.meet(player, other);
                trial.playToTheEnd();
                if (trial.leads(player)) {
                    bits |= 1 << other;
                }
            }
        }
        return bits;
    }

    public int fewest(int player, int k) {
        if (!isPlayer(player) || (k != -1 && !isPlayer(k))) {
            return BAD;
        }
        if (!now.leads(player)) {
            return STATE;
        }
        int way = ways.bestFor(now, player);
        if (way == Ways.NO_WAY) {
            return NONE;
        }
        if (k == -1) {
            return Ways.othersOf(way);
        }
        return now.leads(k) ? Ways.handIn(way, k) : now.hand[k];
    }

    public int begun(int player, int told) {
        if (!isPlayer(player) || !isPlayer(told)) {
            return BAD;
        }
        if (!now.leads(player) || !now.leads(told)) {
            return STATE;
        }
        int bits = 0;
        for (int hand = 0; hand < HANDS; hand++) {
            tryHand(player, hand);
            trial.playToTheEnd();
            if (trial.leads(told)) {
                bits |= 1 << hand;
            }
        }
        return bits;
    }

    private void tryHand(int player, int hand) {
        trial.become(now);
        trial.hand[player] = hand;
    }

    public int odds(int hand, int a, int b, int c, int what) {
        if (!isHand(hand) || !areOdds(a, b, c) || what < 0 || what > 1) {
            return BAD;
        }
        int wins = winsOf(hand, a, b, c);
        int all = wins + lossesOf(hand, a, b, c);
        if (all == 0) {
            return NONE;
        }
        int divisor = commonDivisor(wins, all);
        return (what == 0 ? wins : all) / divisor;
    }

    public int gain(int a, int b, int c) {
        if (!areOdds(a, b, c)) {
            return BAD;
        }
        int best = NONE;
        int bestWins = 0;
        int bestAll = 0;
        for (int hand = 0; hand < HANDS; hand++) {
            int wins = winsOf(hand, a, b, c);
            int all = wins + lossesOf(hand, a, b, c);
            if (all > 0 && (best == NONE || wins * bestAll > bestWins * all)) {
                best = hand;
                bestWins = wins;
                bestAll = all;
            }
        }
        return best;
    }

    private static boolean areOdds(int a, int b, int c) {
        return isShare(a) && isShare(b) && isShare(c) && a + b + c == ALL_ODDS;
    }

    private static boolean isShare(int share) {
        return share >= 0 && share <= ALL_ODDS;
    }

    private static int winsOf(int hand, int a, int b, int c) {
        return shareOf(nextOf(nextOf(hand)), a, b, c);
    }

    private static int lossesOf(int hand, int a, int b, int c) {
        return shareOf(nextOf(hand), a, b, c);
    }

    private static int shareOf(int hand, int a, int b, int c) {
        return hand == 0 ? a : hand == 1 ? b : c;
    }

    private static int commonDivisor(int wins, int all) {
        for (int divisor = ALL_ODDS; divisor > 1; divisor--) {
            if (wins % divisor == 0 && all % divisor == 0) {
                return divisor;
            }
        }
        return 1;
    }

    public int image(int k) {
        if (!isImage(k)) {
            return BAD;
        }
        if (now.isMissing()) {
            return STATE;
        }
        now.save(images, k * Hall.WIDTH);
        imageKept[k] = true;
        return 1;
    }

    public int restore(int k) {
        if (!isImage(k)) {
            return BAD;
        }
        if (!imageKept[k]) {
            return STATE;
        }
        now.load(images, k * Hall.WIDTH);
        acts.forget();
        return 1;
    }

    private static boolean isImage(int k) {
        return k >= 0 && k < IMAGES;
    }

    // ---- asked

    public int kind(int player) {
        return isPlayer(player) ? now.kind[player] : BAD;
    }

    public int as(int player, int kind) {
        if (!isPlayer(player) || kind < PLAYER || kind > SPY) {
            return BAD;
        }
        return isOne(now.kind[player], kind) ? fine(player) : found(KIND);
    }

    public int ask(int player, int what) {
        if (!isPlayer(player) || what < 0 || what > 1) {
            return BAD;
        }
        asks.length = 0;
        return what == 0 ? asks.sizeOf(now, player) : asks.markOf(now, player);
    }

    public int trace(int i) {
        return i >= 0 && i < asks.length ? asks.numbers[i] : NONE;
    }

    public int count(int what) {
        switch (what) {
            case 0:
                return rows.present();
            case 1:
                return now.players;
            case 2:
                return now.leaders();
            case 3:
                return now.round;
            case 4:
                return now.time;
            case 5:
                return acts.kept;
            case 6:
                return tape.length;
            default:
                return BAD;
        }
    }

    public int status() {
        return latestFinding;
    }

    /** The hand that beats a hand. */
    private static int nextOf(int hand) {
        return hand == 2 ? 0 : hand + 1;
    }

    private static boolean isOne(int kind, int told) {
        if (told == BOY) {
            return isBoyish(kind);
        }
        if (told == MIRROR) {
            return kind == MIRROR || kind == SPY;
        }
        return told == PLAYER || told == kind;
    }

    private static boolean isBoyish(int kind) {
        return kind == BOY || kind == STEADY || kind == TEACHER;
    }

    /** The rows; all items stand in one array, as many for each row as it may have at most. */
    private static final class Rows {
        static final int MOST_ROWS = 8, MOST_ITEMS = 40;
        static final int MISSING = -1, BYTES = 0, SHORTS = 1, INTS = 2;

        final int[] lane;
        final int[] size;
        final int[] items;

        Rows() {
            lane = new int[MOST_ROWS];
            size = new int[MOST_ROWS];
            items = new int[MOST_ROWS * MOST_ITEMS];
            for (int row = 0; row < MOST_ROWS; row++) {
                lane[row] = MISSING;
            }
        }

        boolean isMissing(int row) {
            return lane[row] == MISSING;
        }

        int placeOf(int row, int i) {
            return row * MOST_ITEMS + i;
        }

        int itemOf(int row, int i) {
            return items[placeOf(row, i)];
        }

        void make(int row, int newLane, int n) {
            lane[row] = newLane;
            size[row] = n;
            for (int i = 0; i < n; i++) {
                items[placeOf(row, i)] = 0;
            }
        }

        int put(int row, int i, int v) {
            int item = v;
            if (lane[row] == BYTES) {
                item = (byte) v;
            } else if (lane[row] == SHORTS) {
                item = (short) v;
            }
            items[placeOf(row, i)] = item;
            return item;
        }

        /** Written so that no sum of i and n can run over. */
        boolean hasPlaces(int row, int i, int n) {
            return i >= 0 && n >= 0 && i <= size[row] && n <= size[row] - i;
        }

        int remove(int row) {
            int had = size[row];
            lane[row] = MISSING;
            size[row] = 0;
            return had;
        }

        int present() {
            int rows = 0;
            for (int row = 0; row < MOST_ROWS; row++) {
                if (!isMissing(row)) {
                    rows++;
                }
            }
            return rows;
        }
    }

    private static final class Tape {
        static final int MOST_BYTES = 200;

        final byte[] bytes;
        int length;

        Tape() {
            bytes = new byte[MOST_BYTES];
            length = 0;
        }

        boolean hasRoom(int n) {
            return n <= MOST_BYTES - length;
        }

        void add(long w, int n) {
            for (int i = n - 1; i >= 0; i--) {
                bytes[length] = (byte) (w >> (8 * i));
                length++;
            }
        }

        /** 0, which no token has, where the tape has ended. */
        int at(int place) {
            return place < length ? bytes[place] : 0;
        }
    }

    /** Reads the text of a hall, token by token. */
    private static final class Reader {
        static final int END = 0, NAME = 1, NUMBER = 2, SIGN = 3, NO_TOKEN = 4;
        static final int MOST_FIGURES = 3;
        static final int STANDS_WRONG = 1, NUMBER_WRONG = 2, NO_ROOM = 3;

        final Tape text;
        int token;
        int start;
        int past;
        int value;

        Reader(Tape tape) {
            text = tape;
            token = END;
            start = 0;
            past = 0;
            value = 0;
        }

        /** The fault's number, 0 for none; its token is the one at start. */
        int read(Hall draft) {
            past = 0;
            draft.clear();
            step();
            int fault = readPlayer(draft);
            for (int more = 0; more < ROOM && fault == 0 && token != END; more++) {
                fault = readPlayer(draft);
            }
            return fault;
        }

        private int readPlayer(Hall draft) {
            if (!isWord("player")) {
                return STANDS_WRONG;
            }
            if (draft.players == ROOM) {
                return NO_ROOM;
            }
            step();
            int sort = sortRead();
            if (sort == PLAYER) {
                return STANDS_WRONG;
            }
            step();
            if (token != NUMBER) {
                return STANDS_WRONG;
            }
            if (!isHand(value)) {
                return NUMBER_WRONG;
            }
            int begins = value;
            step();
            if (token != SIGN) {
                return STANDS_WRONG;
            }
            draft.enter(sort, begins);
            step();
            return 0;
        }

        /** The kind that the word at hand tells; PLAYER, which none can tell, for no such word. */
        private int sortRead() {
            if (isWord("boy")) {
                return BOY;
            }
            if (isWord("steady")) {
                return STEADY;
            }
            if (isWord("teacher")) {
                return TEACHER;
            }
            if (isWord("mirror")) {
                return MIRROR;
            }
            return isWord("spy") ? SPY : PLAYER;
        }

        private boolean isWord(String word) {
            if (token != NAME || past - start != word.length()) {
                return false;
            }
            for (int i = 0; i < word.length(); i++) {
                if (text.at(start + i) != word.charAt(i)) {
                    return false;
                }
            }
            return true;
        }

        private void step() {
            start = past;
            while (start < text.length && isBlank(text.at(start))) {
                start++;
            }
            past = start;
            if (start >= text.length) {
                token = END;
            } else if (isLetter(text.at(start))) {
                stepName();
            } else if (isFigure(text.at(start))) {
                stepNumber();
            } else {
                token = text.at(start) == ';' ? SIGN : NO_TOKEN;
                past = start + 1;
            }
        }

        private void stepName() {
            token = NAME;
            while (past < text.length && isLetter(text.at(past))) {
                past++;
            }
        }

        private void stepNumber() {
            value = 0;
            while (past < text.length && isFigure(text.at(past))) {
                // a longer run is no number, so that what it would be worth is not looked at
                value = past - start < MOST_FIGURES ? value * 10 + text.at(past) - '0' : value;
                past++;
            }
            token = past - start > MOST_FIGURES ? NO_TOKEN : NUMBER;
        }

        private static boolean isBlank(int sign) {
            return sign == 32 || sign == 10;
        }

        private static boolean isLetter(int sign) {
            return sign >= 'a' && sign <= 'z';
        }

        private static boolean isFigure(int sign) {
            return sign >= '0' && sign <= '9';
        }
    }

    /** The course of a bout; it hangs on kinds and hands alone, but a last tie is settled by trains elsewhere. */
    private static final class Course {
        int first;
        int second;
        int thrown;

        void play(int kindA, int handA, int kindB, int handB) {
            first = kindA == SPY ? nextOf(handB) : handA;
            second = kindB == SPY ? nextOf(handA) : handB;
            thrown = 1;
            while (first == second && thrown < MOST_THROWS) {
                int both = first;
                int next = nextOf(both);
                first = afterTie(kindA, both, next);
                second = afterTie(kindB, both, next);
                thrown++;
            }
        }

        boolean isTie() {
            return first == second;
        }

        boolean firstHasBeaten() {
            return first == nextOf(second);
        }

        private static int afterTie(int kind, int both, int next) {
            if (kind == STEADY) {
                return both;
            }
            return kind == TEACHER && next == 2 ? 0 : next;
        }
    }

    /** The players, and who leads whom; a hall without players is missing. */
    private static final class Hall {
        /** How many numbers an image of a hall has. */
        static final int WIDTH = 3 + 3 * ROOM;

        int players;
        int round;
        int time;
        final int[] kind;
        final int[] hand;
        final int[] leader;
        final Course course;

        Hall() {
            players = 0;
            round = 0;
            time = 0;
            kind = new int[ROOM];
            hand = new int[ROOM];
            leader = new int[ROOM];
            course = new Course();
        }

        boolean isMissing() {
            return players == 0;
        }

        void clear() {
            players = 0;
            round = 0;
            time = 0;
        }

        void enter(int newKind, int newHand) {
            if (players < ROOM) {
                kind[players] = newKind;
                hand[players] = newHand;
                leader[players] = players;
                players++;
            }
        }

        void become(Hall other) {
            players = other.players;
            round = other.round;
            time = other.time;
            for (int p = 0; p < ROOM; p++) {
                kind[p] = other.kind[p];
                hand[p] = other.hand[p];
                leader[p] = other.leader[p];
            }
        }

        void save(int[] into, int at) {
            into[at] = players;
            into[at + 1] = round;
            into[at + 2] = time;
            for (int p = 0; p < ROOM; p++) {
                into[at + 3 + p] = kind[p];
                into[at + 3 + ROOM + p] = hand[p];
                into[at + 3 + 2 * ROOM + p] = leader[p];
            }
        }

        void load(int[] from, int at) {
            players = from[at];
            round = from[at + 1];
            time = from[at + 2];
            for (int p = 0; p < ROOM; p++) {
                kind[p] = from[at + 3 + p];
                hand[p] = from[at + 3 + ROOM + p];
                leader[p] = from[at + 3 + 2 * ROOM + p];
            }
        }

        boolean leads(int p) {
            return leader[p] == p;
        }

        int leaders() {
            int leading = 0;
            for (int p = 0; p < players; p++) {
                if (leads(p)) {
                    leading++;
                }
            }
            return leading;
        }

        /** How many are in the train in which a player is. */
        int trainOf(int player) {
            int members = 0;
            for (int p = 0; p < players; p++) {
                if (leader[p] == leader[player]) {
                    members++;
                }
            }
            return members;
        }

        /** Who leads the longest train, of several the first. */
        int longestTrain() {
            int longest = 0;
            int who = 0;
            for (int p = 0; p < players; p++) {
                if (leads(p) && trainOf(p) > longest) {
                    longest = trainOf(p);
                    who = p;
                }
            }
            return who;
        }

        /** Who wins a bout, of which the course tells the rest. */
        int foretell(int a, int b) {
            course.play(kind[a], hand[a], kind[b], hand[b]);
            if (!course.isTie()) {
                return course.firstHasBeaten() ? a : b;
            }
            int trainA = trainOf(a);
            int trainB = trainOf(b);
            if (trainA == trainB) {
                return a < b ? a : b;
            }
            return trainA > trainB ? a : b;
        }

        /** A bout, but for its time: how that counts hangs on whether others throw meanwhile. */
        int meet(int a, int b) {
            int winner = foretell(a, b);
            int loser = winner == a ? b : a;
            hand[a] = course.first;
            hand[b] = course.second;
            for (int p = 0; p < players; p++) {
                if (leader[p] == loser) {
                    leader[p] = winner;
                }
            }
            return winner;
        }

        void playRound() {
            int waiting = -1;
            int most = 0;
            for (int p = 0; p < players; p++) {
                if (leads(p) && waiting < 0) {
                    waiting = p;
                } else if (leads(p)) {
                    meet(waiting, p);
                    most = Math.max(most, course.thrown);
                    waiting = -1;
                }
            }
            round++;
            time += most;
        }

        void playToTheEnd() {
            for (int i = 0; i < ROOM && leaders() > 1; i++) {
                playRound();
            }
        }

        /** For how many rounds a player leads; ROOM, more than any other can, if he is left. */
        int roundsLed(int player) {
            for (int i = 0; i < ROOM && leaders() > 1; i++) {
                playRound();
                if (!leads(player)) {
                    return i;
                }
            }
            return ROOM;
        }
    }

    /** The acts that can be undone, each by the hall ahead of it; the places are used in turn. */
    private static final class Acts {
        static final int MOST_ACTS = 24;

        final int[] halls;
        int kept;
        int next;

        Acts() {
            halls = new int[MOST_ACTS * Hall.WIDTH];
            kept = 0;
            next = 0;
        }

        void forget() {
            kept = 0;
        }

        void keep(Hall hall) {
            hall.save(halls, next * Hall.WIDTH);
            next = (next + 1) % MOST_ACTS;
            kept = Math.min(kept + 1, MOST_ACTS);
        }

        void takeBack(Hall hall) {
            next = (next + MOST_ACTS - 1) % MOST_ACTS;
            kept--;
            hall.load(halls, next * Hall.WIDTH);
        }
    }

    /**
     * Ways to begin so that a told one is left. A way is one number: above, how many have another hand; below, two bits
     * for the hand of each player, the first one highest. So the least number is the best way, and the ways of two
     * groups who have nobody in common are joined by adding.
     *
     * <p>A group is those who lead of whom the rounds so far leave one. Who of a group meets whom, and how long his
     * train is then, is settled ahead; only he and his hand hang on how the group begins, so that the best way to each
     * such pair is all that the next round needs.
     */
    private static final class Ways {
        static final int NO_WAY = 1 << 30;
        static final int OTHERS_AT = 2 * ROOM;

        final int[] group;
        final int[] train;
        int groups;
        int[] best;
        int[] better;
        final Course course;

        Ways() {
            group = new int[ROOM];
            train = new int[ROOM];
            groups = 0;
            best = new int[ROOM * HANDS];
            better = new int[ROOM * HANDS];
            course = new Course();
        }

        static int othersOf(int way) {
            return way >> OTHERS_AT;
        }

        static int handIn(int way, int player) {
            return (way >> shiftOf(player)) & 3;
        }

        private static int shiftOf(int player) {
            return 2 * (ROOM - 1 - player);
        }

        int bestFor(Hall hall, int player) {
            start(hall);
            for (int i = 0; i < ROOM && groups > 1; i++) {
                pairGroups(hall);
            }
            int way = NO_WAY;
            for (int hand = 0; hand < HANDS; hand++) {
                way = Math.min(way, best[player * HANDS + hand]);
            }
            return way;
        }

        private void start(Hall hall) {
            groups = 0;
            for (int p = 0; p < ROOM; p++) {
                boolean leads = p < hall.players && hall.leads(p);
                for (int hand = 0; hand < HANDS; hand++) {
                    int others = hand == hall.hand[p] ? 0 : 1;
                    best[p * HANDS + hand] = leads ? (others << OTHERS_AT) + (hand << shiftOf(p)) : NO_WAY;
                }
                group[p] = -1;
                if (leads) {
                    group[p] = groups;
                    train[groups] = hall.trainOf(p);
                    groups++;
                }
            }
        }

        private void pairGroups(Hall hall) {
            for (int i = 0; i < ROOM * HANDS; i++) {
                better[i] = NO_WAY;
            }
            for (int a = 0; a < hall.players; a++) {
                for (int b = a + 1; b < hall.players; b++) {
                    if (group[a] >= 0 && group[a] % 2 == 0 && group[b] == group[a] + 1) {
                        pairPlayers(hall, a, b);
                    }
                }
                if (group[a] == groups - 1 && group[a] % 2 == 0) {
                    keepWays(a);
                }
            }
            int[] used = best;
            best = better;
            better = used;
            joinGroups(hall);
        }

        private void pairPlayers(Hall hall, int a, int b) {
            boolean tieIsOfB = train[group[b]] > train[group[a]];
            for (int handA = 0; handA < HANDS; handA++) {
                for (int handB = 0; handB < HANDS; handB++) {
                    int wayA = best[a * HANDS + handA];
                    int wayB = best[b * HANDS + handB];
                    if (wayA != NO_WAY && wayB != NO_WAY) {
                        course.play(hall.kind[a], handA, hall.kind[b], handB);
                        boolean bWins = course.isTie() ? tieIsOfB : !course.firstHasBeaten();
                        int at = bWins ? b * HANDS + course.second : a * HANDS + course.first;
                        better[at] = Math.min(better[at], wayA + wayB);
                    }
                }
            }
        }

        private void keepWays(int player) {
            for (int hand = 0; hand < HANDS; hand++) {
                better[player * HANDS + hand] = best[player * HANDS + hand];
            }
        }

        private void joinGroups(Hall hall) {
            int joined = (groups + 1) / 2;
            for (int g = 0; g < joined; g++) {
                int sum = train[2 * g];
                if (2 * g + 1 < groups) {
                    sum += train[2 * g + 1];
                }
                train[g] = sum;
            }
            for (int p = 0; p < hall.players; p++) {
                if (group[p] >= 0) {
                    group[p] /= 2;
                }
            }
            groups = joined;
        }
    }

    /**
     * What is asked of players, by bodies that leave their numbers. No mark asks for the size of a boy, and no size for
     * the mark of a mirror, so that what is asked anew never comes back to itself.
     */
    private static final class Asks {
        static final int MOST_NUMBERS = 16;

        final int[] numbers;
        int length;

        Asks() {
            numbers = new int[MOST_NUMBERS];
            length = 0;
        }

        int sizeOf(Hall hall, int player) {
            switch (hall.kind[player]) {
                case STEADY:
                    leave(12);
                    return -sizeOfBoy(hall, player);
                case BOY:
                case TEACHER:
                    return sizeOfBoy(hall, player);
                default:
                    return sizeOfMirrorOrSpy(hall, player);
            }
        }

        int markOf(Hall hall, int player) {
            return isBoyish(hall.kind[player]) ? markOfBoyish(hall, player) : markOfMirror(hall, player);
        }

        private int sizeOfPlayer(Hall hall, int player) {
            leave(10);
            return hall.trainOf(player);
        }

        private int sizeOfBoy(Hall hall, int player) {
            leave(11);
            int size = sizeOfPlayer(hall, player);
            return size + markOfBoyish(hall, player);
        }

        private int sizeOfMirror(Hall hall, int player) {
            leave(13);
            return sizeOfPlayer(hall, player) - 100;
        }

        private int sizeOfMirrorOrSpy(Hall hall, int player) {
            if (hall.kind[player] == SPY) {
                leave(14);
                return 2 * sizeOfMirror(hall, player);
            }
            return sizeOfMirror(hall, player);
        }

        private int markOfPlayer(int player) {
            leave(20);
            return player;
        }

        private int markOfBoy(Hall hall, int player) {
            leave(21);
            return markOfPlayer(player) + hall.hand[player];
        }

        private int markOfBoyish(Hall hall, int player) {
            switch (hall.kind[player]) {
                case TEACHER:
                    leave(22);
                    return markOfBoy(hall, player) - 1000;
                case STEADY:
                    leave(24);
                    return 2 * markOfBoy(hall, player);
                default:
                    return markOfBoy(hall, player);
            }
        }

        private int markOfMirror(Hall hall, int player) {
            leave(23);
            int mark = markOfPlayer(player);
            return mark - sizeOfMirrorOrSpy(hall, player);
        }

        private void leave(int number) {
            if (length < MOST_NUMBERS) {
                numbers[length] = number;
                length++;
            }
        }
    }
}
