import java.io.IOException;
import java.nio.file.Files;
import java.nio.file.Path;
import java.util.ArrayList;
import java.util.LinkedHashMap;
import java.util.List;
import java.util.Map;
import java.util.function.Supplier;
import java.util.function.ToIntFunction;
import java.util.regex.Matcher;
import java.util.regex.Pattern;

/** Sentences of the document, each beside the test of its own; halls for them, and what an object tells of itself. */
abstract class Sentences {
    static final int NONE = -1000000, BAD = -1000001, STATE = -1000002, FULL = -1000003;
    static final int NULL = -1000011, PLACE = -1000012, KIND = -1000013, SIZE = -1000014, STORE = -1000015;
    static final int FAULTY = -1000100;
    static final int LEAST = Integer.MIN_VALUE, MOST = Integer.MAX_VALUE;
    static final String[] SORTS = {"", "boy", "steady", "teacher", "mirror", "spy"};

    private static final Path DOC = Path.of("../shared/DOC.md");
    private static final int FINDING = -1000010;

    private record Sentence(String section, String words, Runnable test) {
    }

    private static final List<Sentence> ALL = new ArrayList<>();
    private static final Sentence DOCUMENT = new Sentence("the document", "", () -> { });
    private static String section = "";
    private static Sentence current = DOCUMENT;
    private static int wrong = 0;

    Sentences() {
    }

    static void section(String name) {
        section = name;
    }

    /** The words stand in the document's section as they stand here, but for where its lines end. */
    static void sentence(String words, Runnable test) {
        ALL.add(new Sentence(section, words, test));
    }

    static void due(String call, Object got, Object want) {
        if (!want.equals(got)) {
            wrong++;
            System.out.println("[" + current.section + ": " + current.words + "] " + call + " answered " + got
                + ", due is " + want);
        }
    }

    /** Runs all tests; the sections that are told here must have no clause without a sentence. */
    static void runAll(Pattern wholeSections) throws IOException {
        for (Sentence each : ALL) {
            current = each;
            try {
                each.test.run();
            } catch (RuntimeException e) {
                due("the test", e.toString(), "no exception");
            }
        }
        current = DOCUMENT;
        compare(sectionsOf(Files.readString(DOC)), wholeSections);
        System.out.println(ALL.size() + " sentences, " + (wrong == 0 ? "all as due" : wrong + " answers are wrong"));
        if (wrong > 0) {
            System.exit(1);
        }
    }

    // ---- the document

    /** The parts of 'Terms' are sections of their own: 'Terms' as it begins, then 'Terms 1' to 'Terms 4'. */
    private static Map<String, String> sectionsOf(String doc) {
        Map<String, String> sections = new LinkedHashMap<>();
        Matcher m = Pattern.compile("(?ms)^## (Promise \\d+|[^\\n:]+)[^\\n]*\\n(.*?)(?=^## |\\z)").matcher(doc);
        while (m.find()) {
            String body = m.group(2).replaceAll("(?m)^Ahead of the calls.*$", "").replaceAll("(?m)^```\\w*$", "");
            String[] parts = body.split("========");
            for (int part = 0; part < parts.length; part++) {
                sections.put(m.group(1) + (part == 0 ? "" : " " + part), plain(parts[part]));
            }
        }
        return sections;
    }

    private static String plain(String text) {
        return text.replaceAll("\\s+", " ").trim();
    }

    private static void compare(Map<String, String> sections, Pattern wholeSections) {
        Map<String, boolean[]> quoted = new LinkedHashMap<>();
        for (Map.Entry<String, String> each : sections.entrySet()) {
            quoted.put(each.getKey(), new boolean[each.getValue().length()]);
        }
        for (Sentence each : ALL) {
            String text = sections.getOrDefault(each.section, "");
            String words = plain(each.words);
            int at = text.indexOf(words);
            due("'" + words + "' of " + each.section, at >= 0, true);
            for (int i = at; at >= 0 && i < at + words.length(); i++) {
                quoted.get(each.section)[i] = true;
            }
        }
        int whole = 0;
        for (Map.Entry<String, String> each : sections.entrySet()) {
            if (wholeSections.matcher(each.getKey()).matches()) {
                whole++;
                eachClauseIsQuoted(each.getKey(), each.getValue(), quoted.get(each.getKey()));
            }
        }
        due("whether the document has " + wholeSections, whole > 0, true);
    }

    private static void eachClauseIsQuoted(String name, String text, boolean[] quoted) {
        Matcher clauses = Pattern.compile("[^ ].*?(?:[.;:](?= |$)|$)").matcher(text);
        while (clauses.find()) {
            boolean any = false;
            for (int i = clauses.start(); i < clauses.end(); i++) {
                any |= quoted[i];
            }
            boolean isHead = clauses.group().startsWith("`");
            due("a test for '" + clauses.group() + "' of " + name, any || isHead, true);
        }
    }

    // ---- halls

    /** The text comes behind the tape, eight bytes a call. */
    static void feed(FistTrains x, String text) {
        for (int at = 0; at < text.length(); at += 8) {
            int n = Math.min(8, text.length() - at);
            long word = 0;
            for (int i = 0; i < n; i++) {
                word = word << 8 | text.charAt(at + i);
            }
            x.feed(word, n);
        }
    }

    static int read(FistTrains x, String text) {
        feed(x, text);
        return x.hall();
    }

    /** "boy0 spy2" stands for: player boy 0;player spy 2; */
    static String textOf(String players) {
        StringBuilder text = new StringBuilder();
        for (String player : players.split(" ")) {
            int last = player.length() - 1;
            text.append("player ").append(player, 0, last).append(' ').append(player.charAt(last)).append(';');
        }
        return text.toString();
    }

    static FistTrains hallOf(String players) {
        FistTrains x = new FistTrains();
        due("hall of " + players, read(x, textOf(players)), players.split(" ").length);
        return x;
    }

    /** The hands of all players, "012" for stone, paper, scissors. */
    static String hands(FistTrains x) {
        return each(x, 0);
    }

    static String leaders(FistTrains x) {
        return each(x, 1);
    }

    static String trains(FistTrains x) {
        return each(x, 2);
    }

    private static String each(FistTrains x, int what) {
        StringBuilder told = new StringBuilder();
        int players = x.count(1);
        for (int p = 0; p < players; p++) {
            told.append(x.player(p, what));
        }
        return told.toString();
    }

    static void rowOf(FistTrains x, int row, int lane, int... items) {
        x.row(row, lane, items.length);
        for (int i = 0; i < items.length; i++) {
            x.set(row, i, items[i]);
        }
    }

    /** The bodies of the latest ask, in their order. */
    static String trace(FistTrains x) {
        StringBuilder told = new StringBuilder();
        for (int i = 0; x.trace(i) != NONE && i < 16; i++) {
            told.append(i == 0 ? "" : " ").append(x.trace(i));
        }
        return told.toString();
    }

    // ---- what an object tells

    /** What withEmptyTape() gives, and two players on the tape. */
    static FistTrains busy() {
        FistTrains x = withEmptyTape();
        feed(x, textOf("spy2 boy1"));
        return x;
    }

    /** A hall behind a hand, a bout, a round: 0 and 3 lead; rows of all lanes, an image, a trace, a fault, PLACE. */
    static FistTrains withEmptyTape() {
        FistTrains x = new FistTrains();
        read(x, "player boy 7;");
        read(x, textOf("steady0 boy1 mirror2 spy0 teacher1"));
        rowOf(x, 0, 0, 1, 0, 2, 0, 1);
        rowOf(x, 1, 1, 2, 1, 2, 1, 2, 300);
        rowOf(x, 2, 2, 0, 1, 0, 1, 0);
        x.row(7, 0, 0);
        x.image(0);
        x.hand(1, 2);
        x.bout(0, 1);
        x.round();
        x.ask(3, 1);
        x.set(0, 5, 1);
        return x;
    }

    /** What busy() gives, a round on: 3 leads alone. */
    static FistTrains withOneLeader() {
        FistTrains x = busy();
        x.round();
        return x;
    }

    /** No hall; one row; bytes on the tape; a finding. */
    static FistTrains withoutHall() {
        FistTrains x = new FistTrains();
        rowOf(x, 0, 0, 1, 2);
        feed(x, textOf("mirror1"));
        x.drop(1);
        return x;
    }

    /** All that can be learnt of an object, but for status(): at first by asking, then by spending what it has. */
    static String allOf(FistTrains x) {
        StringBuilder told = new StringBuilder(seen(x));
        int players = x.count(1);
        for (int p = 0; p < players; p++) {
            for (int kind = 0; kind <= 5; kind++) {
                told.append(x.as(p, kind)).append(' ');
            }
            told.append("asks ").append(x.ask(p, 0)).append(' ').append(x.ask(p, 1)).append('\n');
        }
        for (int row = 0; row < 8; row++) {
            told.append("row ").append(row).append(": ").append(x.hands(row)).append(' ').append(hands(x)).append('\n');
            if (row == 0) {
                x.undo();
            }
        }
        for (int row = 0; row < 3; row++) {
            told.append("lane ").append(x.set(row, 0, 70000)).append(' ').append(x.status()).append('\n');
        }
        for (int i = 0; i < 24 && x.count(5) > 0; i++) {
            told.append("undo ").append(x.undo()).append(' ').append(hands(x)).append(leaders(x)).append(x.count(3))
                .append(x.count(4)).append('\n');
        }
        for (int row = 0; row < 8; row++) {
            told.append("drop ").append(x.drop(row)).append('\n');
        }
        for (int k = 0; k < 2; k++) {
            told.append("restore ").append(x.restore(k)).append(' ').append(seen(x));
        }
        told.append("hall ").append(x.hall()).append(' ').append(seen(x));
        return told.toString();
    }

    /** What an object tells without becoming another. */
    static String seen(FistTrains x) {
        StringBuilder told = new StringBuilder("counts");
        for (int what = 0; what <= 6; what++) {
            told.append(' ').append(x.count(what));
        }
        told.append(" hands ").append(hands(x)).append(" leaders ").append(leaders(x)).append(" kinds ");
        int players = x.count(1);
        for (int p = 0; p < players; p++) {
            told.append(x.kind(p));
        }
        return told.append(" fault ").append(x.fault()).append(" trace ").append(trace(x)).append('\n').toString();
    }

    /** All that is foretold of a hall. */
    static String foretells(FistTrains x) {
        StringBuilder told = new StringBuilder("left ").append(x.left(0)).append(' ').append(x.left(1)).append(' ')
            .append(x.left(2));
        for (int n = 0; n <= 9; n++) {
            told.append(" longest ").append(x.longest(n, 0)).append(' ').append(x.longest(n, 1));
        }
        int players = x.count(1);
        for (int p = 0; p < players; p++) {
            told.append(" of ").append(p).append(' ').append(x.begin(p)).append(' ').append(x.seek(p));
            for (int q = -1; q < players; q++) {
                told.append(' ').append(x.fewest(p, q)).append(' ').append(x.begun(p, q)).append(' ')
                    .append(x.beats(p, q, 0)).append(' ').append(x.beats(p, q, 1));
            }
        }
        return told.toString();
    }

    /** A call that is refused, or finds: its answer, and that nothing but status() is other behind it. */
    static void refused(Supplier<FistTrains> start, String call, int want, ToIntFunction<FistTrains> made) {
        FistTrains x = start.get();
        int status = x.status();
        due(call, made.applyAsInt(x), want);
        due("status behind " + call, x.status(), want < FINDING ? FINDING - want : status);
        due("all behind " + call, allOf(x), allOf(start.get()));
    }

    static void refused(String call, int want, ToIntFunction<FistTrains> made) {
        refused(Sentences::busy, call, want, made);
    }

    /** A call that answers, without a finding, and leaves all as it was. */
    static void foretold(Supplier<FistTrains> start, String call, int want, ToIntFunction<FistTrains> made) {
        FistTrains x = start.get();
        int status = x.status();
        due(call, made.applyAsInt(x), want);
        due("status behind " + call, x.status(), status);
        due("all behind " + call, allOf(x), allOf(start.get()));
    }

    /** Numbers of players that busy() has not. */
    static final int[] NO_PLAYERS = {-1, 5, 7, 8, LEAST, MOST};
    static final int[] NO_ROWS = {-1, 8, 9, LEAST, MOST};
    static final int[] NO_HANDS = {-1, 3, 4, LEAST, MOST};
    /** What is none, where 0 and 1 are. */
    static final int[] NO_PAIR_WHATS = {-1, 2, LEAST, MOST};
}
