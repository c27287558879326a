import java.util.ArrayDeque;
import java.util.ArrayList;
import java.util.Arrays;
import java.util.List;
import java.util.Random;

/** Runs of calls by lot, beside a model that tries all ways where the class reckons. */
public final class RandomRunsTest {
    private static final int NONE = -1000000, BAD = -1000001, STATE = -1000002, FULL = -1000003;
    private static final int NULL = -1000011, PLACE = -1000012, KIND = -1000013, SIZE = -1000014, STORE = -1000015;
    private static final List<String> SORTS = List.of("", "boy", "steady", "teacher", "mirror", "spy");
    private static final int RUNS = 250;
    private static final int CALLS = 512;

    private static final class Fist {
        int sort;
        int hand;
        int leader;

        Fist(int sort, int hand, int leader) {
            this.sort = sort;
            this.hand = hand;
            this.leader = leader;
        }
    }

    private static final class Room {
        List<Fist> fists = new ArrayList<>();
        int rounds;
        int time;

        Room twin() {
            Room twin = new Room();
            for (Fist f : fists) {
                twin.fists.add(new Fist(f.sort, f.hand, f.leader));
            }
            twin.rounds = rounds;
            twin.time = time;
            return twin;
        }

        boolean leads(int p) {
            return fists.get(p).leader == p;
        }

        List<Integer> leaders() {
            List<Integer> leaders = new ArrayList<>();
            for (int p = 0; p < fists.size(); p++) {
                if (leads(p)) {
                    leaders.add(p);
                }
            }
            return leaders;
        }

        int train(int p) {
            return (int) fists.stream().filter(f -> f.leader == fists.get(p).leader).count();
        }

        private static int other(int sort, int his, int others) {
            switch (SORTS.get(sort)) {
                case "boy":
                    return (his + 1) % 3;
                case "steady":
                    return his;
                case "teacher":
                    return his == 1 ? 0 : (his + 1) % 3;
                default:
                    return (others + 1) % 3;
            }
        }

        /** Who has won, and in how many throws. */
        int[] bout(int a, int b) {
            Fist one = fists.get(a);
            Fist two = fists.get(b);
            int winner = -1;
            int throwsDone = 0;
            while (winner < 0) {
                throwsDone++;
                int x = one.hand;
                int y = two.hand;
                if (throwsDone == 1 && one.sort == 5) {
                    x = (two.hand + 1) % 3;
                }
                if (throwsDone == 1 && two.sort == 5) {
                    y = (one.hand + 1) % 3;
                }
                one.hand = x;
                two.hand = y;
                if ((x - y + 3) % 3 == 1) {
                    winner = a;
                } else if ((y - x + 3) % 3 == 1) {
                    winner = b;
                } else if (throwsDone == 9) {
                    int longer = train(a) - train(b);
                    winner = longer > 0 ? a : longer < 0 ? b : Math.min(a, b);
                } else {
                    one.hand = other(one.sort, x, y);
                    two.hand = other(two.sort, y, x);
                }
            }
            int loser = a + b - winner;
            for (Fist f : fists) {
                f.leader = f.leader == loser ? winner : f.leader;
            }
            return new int[] {winner, throwsDone};
        }

        void round() {
            List<Integer> order = leaders();
            int most = 0;
            for (int i = 0; i + 1 < order.size(); i += 2) {
                most = Math.max(most, bout(order.get(i), order.get(i + 1))[1]);
            }
            rounds++;
            time += most;
        }

        Room end() {
            Room end = twin();
            while (end.leaders().size() > 1) {
                end.round();
            }
            return end;
        }

        Room with(int p, int hand) {
            Room twin = twin();
            twin.fists.get(p).hand = hand;
            return twin;
        }
    }

    private static final class Model {
        Room room;
        final ArrayDeque<Room> acts = new ArrayDeque<>();
        final Room[] images = new Room[2];
        final int[][] rows = new int[8][];
        final int[] lanes = new int[8];
        final StringBuilder tape = new StringBuilder();
        final List<Integer> trace = new ArrayList<>();
        int fault;
        int status;

        int players() {
            return room == null ? 0 : room.fists.size();
        }

        boolean isPlayer(int p) {
            return p >= 0 && p < players();
        }

        boolean leads(int p) {
            return room.leads(p);
        }

        int found(int answer) {
            status = -1000010 - answer;
            return answer;
        }

        int fine(int answer) {
            status = 0;
            return answer;
        }

        int row(int row, int lane, int n) {
            if (row < 0 || row > 7 || lane < 0 || lane > 2 || n > 40) {
                return BAD;
            }
            if (n < 0) {
                return found(SIZE);
            }
            rows[row] = new int[n];
            lanes[row] = lane;
            return fine(n);
        }

        int set(int row, int i, int v) {
            if (row < 0 || row > 7) {
                return BAD;
            }
            if (rows[row] == null) {
                return found(NULL);
            }
            if (i < 0 || i >= rows[row].length) {
                return found(PLACE);
            }
            int unused = 24 - (lanes[row] == 0 ? 0 : lanes[row] == 1 ? 8 : 24);
            rows[row][i] = v << unused >> unused;
            return fine(rows[row][i]);
        }

        int copy(int a, int i, int b, int j, int n) {
            if (a < 0 || a > 7 || b < 0 || b > 7) {
                return BAD;
            }
            if (rows[a] == null || rows[b] == null) {
                return found(NULL);
            }
            if (lanes[a] != lanes[b]) {
                return found(STORE);
            }
            if (i < 0 || j < 0 || n < 0 || (long) i + n > rows[a].length || (long) j + n > rows[b].length) {
                return found(PLACE);
            }
            int[] ahead = rows[a].clone();
            for (int k = 0; k < n; k++) {
                rows[b][j + k] = ahead[i + k];
            }
            return fine(n);
        }

        int drop(int row) {
            if (row < 0 || row > 7) {
                return BAD;
            }
            if (rows[row] == null) {
                return found(NULL);
            }
            int had = rows[row].length;
            rows[row] = null;
            return fine(had);
        }

        int feed(long w, int n) {
            if (n < 1 || n > 8) {
                return BAD;
            }
            if (tape.length() + n > 200) {
                return FULL;
            }
            for (int i = n - 1; i >= 0; i--) {
                tape.append((char) (w >>> 8 * i & 255));
            }
            return tape.length();
        }

        int hall() {
            String text = tape.toString();
            tape.setLength(0);
            List<String> tokens = new ArrayList<>();
            List<Integer> places = new ArrayList<>();
            java.util.regex.Matcher m = java.util.regex.Pattern.compile("[a-z]+|[0-9]+|[^ \n]").matcher(text);
            while (m.find()) {
                tokens.add(m.group());
                places.add(m.start());
            }
            tokens.add("the end");
            places.add(text.length());
            Room read = new Room();
            int sort = 0;
            for (int i = 0; i < tokens.size(); i++) {
                String t = tokens.get(i);
                int found = 0;
                switch (i % 4) {
                    case 0:
                        if (i > 0 && i == tokens.size() - 1) {
                            break;
                        }
                        found = !t.equals("player") ? 1 : read.fists.size() == 8 ? 3 : 0;
                        break;
                    case 1:
                        sort = SORTS.indexOf(t);
                        found = sort < 1 ? 1 : 0;
                        break;
                    case 2:
                        found = !t.matches("[0-9]{1,3}") ? 1 : Integer.parseInt(t) > 2 ? 2 : 0;
                        if (found == 0) {
                            read.fists.add(new Fist(sort, Integer.parseInt(t), read.fists.size()));
                        }
                        break;
                    default:
                        found = t.equals(";") ? 0 : 1;
                        break;
                }
                if (found > 0) {
                    fault = found;
                    return -1000100 - places.get(i);
                }
            }
            room = read;
            acts.clear();
            return players();
        }

        void act() {
            acts.addLast(room.twin());
            if (acts.size() > 24) {
                acts.removeFirst();
            }
        }

        int bout(int a, int b) {
            if (!isPlayer(a) || !isPlayer(b) || a == b) {
                return BAD;
            }
            if (!leads(a) || !leads(b)) {
                return STATE;
            }
            act();
            int[] won = room.bout(a, b);
            room.time += won[1];
            return won[0];
        }

        int round() {
            if (room == null || room.leaders().size() < 2) {
                return STATE;
            }
            act();
            room.round();
            return room.leaders().size();
        }

        int hand(int p, int hand) {
            if (!isPlayer(p) || hand < 0 || hand > 2) {
                return BAD;
            }
            act();
            int had = room.fists.get(p).hand;
            room.fists.get(p).hand = hand;
            return had;
        }

        int hands(int row) {
            if (room == null) {
                return STATE;
            }
            if (row < 0 || row > 7) {
                return BAD;
            }
            if (rows[row] == null) {
                return found(NULL);
            }
            if (rows[row].length < players()) {
                return found(PLACE);
            }
            if (!Arrays.stream(rows[row]).limit(players()).allMatch(h -> h >= 0 && h <= 2)) {
                return BAD;
            }
            act();
            int others = 0;
            for (int p = 0; p < players(); p++) {
                others += room.fists.get(p).hand == rows[row][p] ? 0 : 1;
                room.fists.get(p).hand = rows[row][p];
            }
            return fine(others);
        }

        int undo() {
            if (acts.isEmpty()) {
                return STATE;
            }
            room = acts.removeLast();
            return acts.size();
        }

        int player(int p, int what) {
            if (!isPlayer(p) || what < 0 || what > 2) {
                return BAD;
            }
            return what == 0 ? room.fists.get(p).hand : what == 1 ? room.fists.get(p).leader : room.train(p);
        }

        int beats(int a, int b, int what) {
            if (!isPlayer(a) || !isPlayer(b) || a == b || what < 0 || what > 1) {
                return BAD;
            }
            return leads(a) && leads(b) ? room.twin().bout(a, b)[what] : STATE;
        }

        int left(int what) {
            if (room == null) {
                return STATE;
            }
            Room end = room.end();
            return what == 0 ? end.leaders().get(0) : what == 1 ? end.rounds - room.rounds
                : what == 2 ? end.time - room.time : BAD;
        }

        int longest(int n, int what) {
            if (room == null) {
                return STATE;
            }
            if (n < 0 || n > 9 || what < 0 || what > 1) {
                return BAD;
            }
            Room then = room.twin();
            for (int i = 0; i < n; i++) {
                if (then.leaders().size() > 1) {
                    then.round();
                }
            }
            int best = -1;
            for (int p : then.leaders()) {
                best = best < 0 || then.train(p) > then.train(best) ? p : best;
            }
            return what == 0 ? then.train(best) : best;
        }

        int begin(int p) {
            if (!isPlayer(p)) {
                return BAD;
            }
            if (!leads(p)) {
                return STATE;
            }
            int best = -1;
            int most = -1;
            for (int hand = 0; hand < 3; hand++) {
                Room then = room.with(p, hand);
                int led = -1;
                while (then.leads(p) && then.leaders().size() > 1) {
                    then.round();
                    led++;
                }
                led = then.leads(p) ? 1000 : led;
                best = led > most ? hand : best;
                most = Math.max(led, most);
            }
            return best;
        }

        int seek(int p) {
            if (!isPlayer(p)) {
                return BAD;
            }
            if (!leads(p)) {
                return STATE;
            }
            int bits = 0;
            for (int q : room.leaders()) {
                if (q != p) {
                    Room then = room.twin();
                    then.bout(p, q);
                    bits |= then.end().leads(p) ? 1 << q : 0;
                }
            }
            return bits;
        }

        int fewest(int p, int k) {
            if (!isPlayer(p) || k < -1 || (k >= 0 && !isPlayer(k))) {
                return BAD;
            }
            if (!leads(p)) {
                return STATE;
            }
            int[] now = room.fists.stream().mapToInt(f -> f.hand).toArray();
            int[] best = null;
            int fewest = 99;
            for (int row = 0; row < Math.pow(3, players()); row++) {
                int[] hands = new int[players()];
                int others = 0;
                int rest = row;
                boolean may = true;
                for (int q = players() - 1; q >= 0; q--) {
                    hands[q] = rest % 3;
                    rest /= 3;
                    others += hands[q] == now[q] ? 0 : 1;
                    may &= leads(q) || hands[q] == now[q];
                }
                if (may && others < fewest && withAll(hands).end().leads(p)) {
                    fewest = others;
                    best = hands;
                }
            }
            return best == null ? NONE : k < 0 ? fewest : best[k];
        }

        Room withAll(int[] hands) {
            Room twin = room.twin();
            for (int q = 0; q < hands.length; q++) {
                twin.fists.get(q).hand = hands[q];
            }
            return twin;
        }

        int begun(int p, int told) {
            if (!isPlayer(p) || !isPlayer(told)) {
                return BAD;
            }
            if (!leads(p) || !leads(told)) {
                return STATE;
            }
            int bits = 0;
            for (int hand = 0; hand < 3; hand++) {
                bits |= room.with(p, hand).end().leads(told) ? 1 << hand : 0;
            }
            return bits;
        }

        boolean areOdds(int... odds) {
            return Arrays.stream(odds).allMatch(o -> o >= 0 && o <= 9) && Arrays.stream(odds).sum() == 9;
        }

        int odds(int hand, int a, int b, int c, int what) {
            if (hand < 0 || hand > 2 || !areOdds(a, b, c) || what < 0 || what > 1) {
                return BAD;
            }
            int[] lot = {a, b, c};
            int above = lot[(hand + 2) % 3];
            int below = above + lot[(hand + 1) % 3];
            if (below == 0) {
                return NONE;
            }
            int divisor = java.math.BigInteger.valueOf(above).gcd(java.math.BigInteger.valueOf(below)).intValue();
            return (what == 0 ? above : below) / divisor;
        }

        int gain(int a, int b, int c) {
            if (!areOdds(a, b, c)) {
                return BAD;
            }
            int best = NONE;
            double most = -1;
            for (int hand = 0; hand < 3; hand++) {
                int below = odds(hand, a, b, c, 1);
                double odds = below == NONE ? -1 : (double) odds(hand, a, b, c, 0) / below;
                if (odds > most) {
                    best = hand;
                    most = odds;
                }
            }
            return best;
        }

        int image(int k) {
            if (k < 0 || k > 1) {
                return BAD;
            }
            if (room == null) {
                return STATE;
            }
            images[k] = room.twin();
            return 1;
        }

        int restore(int k) {
            if (k < 0 || k > 1) {
                return BAD;
            }
            if (images[k] == null) {
                return STATE;
            }
            room = images[k].twin();
            acts.clear();
            return 1;
        }

        int kind(int p) {
            return isPlayer(p) ? room.fists.get(p).sort : BAD;
        }

        int as(int p, int kind) {
            if (!isPlayer(p) || kind < 0 || kind > 5) {
                return BAD;
            }
            int[] above = {-1, 0, 1, 1, 0, 4};
            for (int is = kind(p); is >= 0; is = above[is]) {
                if (is == kind) {
                    return fine(p);
                }
            }
            return found(KIND);
        }

        int ask(int p, int what) {
            if (!isPlayer(p) || what < 0 || what > 1) {
                return BAD;
            }
            trace.clear();
            return what == 0 ? askSize(p) : askMark(p);
        }

        int askSize(int p) {
            return body(p, new int[] {10, 11, 12, 11, 13, 14}[kind(p)]);
        }

        int askMark(int p) {
            return body(p, new int[] {20, 21, 24, 22, 23, 23}[kind(p)]);
        }

        int body(int p, int number) {
            trace.add(number);
            switch (number) {
                case 10:
                    return room.train(p);
                case 11:
                    return body(p, 10) + askMark(p);
                case 12:
                    return 0 - body(p, 11);
                case 13:
                    return body(p, 10) - 100;
                case 14:
                    return 2 * body(p, 13);
                case 20:
                    return p;
                case 21:
                    return body(p, 20) + room.fists.get(p).hand;
                case 22:
                    return body(p, 21) - 1000;
                case 23:
                    return body(p, 20) - askSize(p);
                default:
                    return 2 * body(p, 21);
            }
        }

        int trace(int i) {
            return i >= 0 && i < trace.size() && i < 16 ? trace.get(i) : NONE;
        }

        int count(int what) {
            switch (what) {
                case 0:
                    return (int) Arrays.stream(rows).filter(r -> r != null).count();
                case 1:
                    return players();
                case 2:
                    return room == null ? 0 : room.leaders().size();
                case 3:
                    return room == null ? 0 : room.rounds;
                case 4:
                    return room == null ? 0 : room.time;
                case 5:
                    return acts.size();
                case 6:
                    return tape.length();
                default:
                    return BAD;
            }
        }
    }

    private final Random lot;
    private final FistTrains x = new FistTrains();
    private final Model m = new Model();
    private final List<String> calls = new ArrayList<>();
    private boolean right = true;

    private RandomRunsTest(long seed) {
        lot = new Random(seed);
    }

    /** What later calls than the 512th answer is free. */
    private void due(int got, int want, String call, Object... arguments) {
        if (calls.size() >= CALLS) {
            return;
        }
        calls.add(call + Arrays.toString(arguments) + " -> " + got);
        if (got != want) {
            right = false;
            calls.add("due is " + want);
        }
    }

    /** Mostly within the bounds, or just beyond them; now and then far off. */
    private int upTo(int last) {
        int[] far = {Integer.MIN_VALUE, Integer.MAX_VALUE, -2, 256, -1000000};
        return lot.nextInt(60) == 0 ? far[lot.nextInt(far.length)] : lot.nextInt(last + 3) - (lot.nextInt(8) == 0 ? 1 : 0);
    }

    private int in(int last) {
        return lot.nextInt(30) == 0 ? upTo(last) : lot.nextInt(last + 1);
    }

    private int who() {
        List<Integer> leaders = m.room == null ? List.of() : m.room.leaders();
        return leaders.isEmpty() || lot.nextInt(4) == 0 ? in(8) : leaders.get(lot.nextInt(leaders.size()));
    }

    private void readHall() {
        StringBuilder text = new StringBuilder();
        int players = lot.nextInt(20) == 0 ? lot.nextInt(11) : 1 + lot.nextInt(8);
        int few = 1 + lot.nextInt(5);
        for (int p = 0; p < players; p++) {
            text.append("player ").append(SORTS.get(1 + (few + lot.nextInt(few)) % 5)).append(lot.nextBoolean() ? " " : "");
            text.append(lot.nextInt(3)).append(lot.nextInt(4) == 0 ? " ;\n" : ";");
        }
        if (lot.nextInt(4) == 0 && text.length() > 0) {
            String[] odd = {"", " ", "\n", ";", "0", "3", "99", "000", "0000", "player", "boy", "x", "A", "-", "" + (char) 200};
            int at = lot.nextInt(text.length());
            text.replace(at, Math.min(text.length(), at + lot.nextInt(3)), odd[lot.nextInt(odd.length)]);
        }
        if (lot.nextInt(20) == 0) {
            text.setLength(lot.nextInt(text.length() + 1));
        }
        for (int i = 0; i < text.length();) {
            int n = Math.min(1 + lot.nextInt(8), text.length() - i);
            long w = lot.nextLong();
            for (int k = 0; k < n; k++) {
                w = w << 8 | text.charAt(i + k);
            }
            due(x.feed(w, n), m.feed(w, n), "feed", w, n);
            i += n;
        }
        due(x.hall(), m.hall(), "hall");
        due(x.fault(), m.fault, "fault");
    }

    private void callRows() {
        int a = in(7);
        int b = in(7);
        int i = lot.nextInt(3) == 0 ? upTo(8) : lot.nextInt(3);
        int j = lot.nextInt(3) == 0 ? upTo(8) : lot.nextInt(3);
        int n = lot.nextInt(3) == 0 ? upTo(40) : 8 + lot.nextInt(4);
        int v = lot.nextInt(5) == 0 ? lot.nextInt() : in(2);
        int lane = lot.nextInt(2) == 0 ? 2 : in(2);
        switch (lot.nextInt(7)) {
            case 0:
                due(x.row(a, lane, n), m.row(a, lane, n), "row", a, lane, n);
                break;
            case 1:
                due(x.copy(a, i, b, j, n / 2), m.copy(a, i, b, j, n / 2), "copy", a, i, b, j, n / 2);
                break;
            case 2:
                if (lot.nextInt(4) == 0) {
                    due(x.drop(a), m.drop(a), "drop", a);
                }
                break;
            default:
                i = in(10);
                due(x.set(a, i, v), m.set(a, i, v), "set", a, i, v);
                break;
        }
        due(x.status(), m.status, "status");
    }

    private void callActs() {
        int a = who();
        int b = who();
        int hand = in(2);
        switch (lot.nextInt(9)) {
            case 0:
            case 1:
                due(x.bout(a, b), m.bout(a, b), "bout", a, b);
                break;
            case 2:
                due(x.round(), m.round(), "round");
                break;
            case 3:
            case 4:
                due(x.hand(a, hand), m.hand(a, hand), "hand", a, hand);
                break;
            case 5:
                due(x.hands(b), m.hands(b), "hands", b);
                break;
            case 6:
                if (lot.nextInt(3) == 0) {
                    due(x.image(hand), m.image(hand), "image", hand);
                }
                if (lot.nextInt(3) == 0) {
                    due(x.restore(hand), m.restore(hand), "restore", hand);
                }
                break;
            default:
                due(x.undo(), m.undo(), "undo");
                break;
        }
        due(x.status(), m.status, "status");
    }

    private void callForetold() {
        int a = who();
        int b = who();
        int what = in(2);
        int n = in(9);
        int c = lot.nextInt(10);
        int d = lot.nextInt(10 - c);
        int e = lot.nextInt(8) == 0 ? in(9) : 9 - c - d;
        due(x.beats(a, b, what), m.beats(a, b, what), "beats", a, b, what);
        due(x.left(what), m.left(what), "left", what);
        due(x.longest(n, what), m.longest(n, what), "longest", n, what);
        due(x.begin(a), m.begin(a), "begin", a);
        due(x.seek(a), m.seek(a), "seek", a);
        due(x.begun(a, b), m.begun(a, b), "begun", a, b);
        due(x.odds(what, c, d, e, n % 2), m.odds(what, c, d, e, n % 2), "odds", what, c, d, e, n % 2);
        due(x.gain(c, d, e), m.gain(c, d, e), "gain", c, d, e);
        if (lot.nextInt(3) == 0) {
            for (int k = -2; k <= m.players(); k++) {
                if (k < 0 || lot.nextInt(4) == 0) {
                    due(x.fewest(a, k), m.fewest(a, k), "fewest", a, k);
                }
            }
        }
    }

    private void callAsked() {
        int a = in(8);
        int what = in(5);
        due(x.kind(a), m.kind(a), "kind", a);
        due(x.as(a, what), m.as(a, what), "as", a, what);
        due(x.status(), m.status, "status");
        due(x.ask(a, what / 2), m.ask(a, what / 2), "ask", a, what / 2);
        for (int i = -1; i < 7; i++) {
            due(x.trace(i), m.trace(i), "trace", i);
        }
    }

    private void lookAtAll() {
        for (int what = -1; what <= 7; what++) {
            due(x.count(what), m.count(what), "count", what);
        }
        for (int p = -1; p <= m.players(); p++) {
            for (int what = -1; what <= 3; what++) {
                due(x.player(p, what), m.player(p, what), "player", p, what);
            }
        }
    }

    private boolean run() {
        while (right && calls.size() < CALLS) {
            int kind = lot.nextInt(40);
            if (kind == 0 || (m.room == null && kind < 10)) {
                readHall();
            } else if (kind < 12) {
                callRows();
            } else if (kind < 30) {
                callActs();
            } else if (kind < 34) {
                callForetold();
            } else if (kind < 37) {
                callAsked();
            } else {
                lookAtAll();
            }
        }
        if (!right) {
            calls.forEach(System.out::println);
        }
        return right;
    }

    private boolean fewestRun() {
        fewestInHall();
        fewestInHall();
        if (!right) {
            calls.forEach(System.out::println);
        }
        return right;
    }

    /** Many ties, and trains of unlike lengths: there the way to the fewest hangs on the trains on it. */
    private void fewestInHall() {
        int players = 5 + lot.nextInt(4);
        StringBuilder text = new StringBuilder();
        for (int p = 0; p < players; p++) {
            int sort = lot.nextInt(4) == 0 ? 1 + lot.nextInt(5) : 2;
            text.append("player ").append(SORTS.get(sort)).append(' ').append(lot.nextInt(2)).append(';');
        }
        for (char sign : text.toString().toCharArray()) {
            due(x.feed(sign, 1), m.feed(sign, 1), "feed", (int) sign, 1);
        }
        due(x.hall(), m.hall(), "hall");
        int last = players - 1;
        for (int bouts = lot.nextInt(players); bouts > 0; bouts--) {
            int a = last - lot.nextInt(4);
            int b = lot.nextInt(players);
            due(x.bout(a, b), m.bout(a, b), "bout", a, b);
        }
        for (int p = 0; p < players; p++) {
            for (int k = -1; k < players; k++) {
                if (k < 0 || k == p || lot.nextInt(6) == 0) {
                    due(x.fewest(p, k), m.fewest(p, k), "fewest", p, k);
                }
            }
        }
    }

    public static void main(String[] args) {
        for (int seed = 0; seed < RUNS; seed++) {
            if (!new RandomRunsTest(seed).run() || !new RandomRunsTest(seed).fewestRun()) {
                System.out.println("run by seed " + seed + " is wrong");
                System.exit(1);
            }
        }
        System.out.println(RUNS + " runs are as due");
    }
}
