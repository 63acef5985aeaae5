import java.io.IOException;
import java.nio.file.Files;
import java.nio.file.Path;
import java.util.LinkedHashMap;
import java.util.Map;
import java.util.Set;
import java.util.TreeMap;
import java.util.TreeSet;
import java.util.function.Supplier;
import java.util.function.ToIntFunction;
import java.util.regex.Matcher;
import java.util.regex.Pattern;

/**
 * Tests by sentences: each quotes the sentence of the document that it stands for, and close() looks whether a test
 * quotes each sentence of the terms and of every promise.
 */
final class Edges {
    static final int BAD = -1, STATE = -2, FULL = -3, NONE = -4;
    static final int A = 0, B = 1, C = 2, D = 3, S = 4, P = 5;
    static final int LEAST = Integer.MIN_VALUE, GREATEST = Integer.MAX_VALUE;

    private static final Path DOC = Path.of("../shared/DOC.md");
    private static final int TERMS = 0, WHAT_IT_IS = -1;

    private final Map<Integer, String> sections = new TreeMap<>();
    private final Map<Integer, boolean[]> quoted = new TreeMap<>();
    private final Map<Supplier<FrameWalks>, Map<String, Integer>> sights = new LinkedHashMap<>();
    private String sentence = "";
    private int sentences = 0;
    private int made = 0;
    private int wrong = 0;

    Edges() throws IOException {
        if (!Files.exists(DOC)) {
            System.out.println("EdgesTest: " + DOC + " is not there, so quotes are not looked up");
            return;
        }
        String all = Files.readString(DOC);
        Matcher heads = Pattern.compile("(?ms)^## (What it is|Terms|Promise (\\d+):[^\n]*)\n(.*?)(?=^## |\\z)").matcher(all);
        while (heads.find()) {
            boolean isPromise = heads.group(2) != null;
            int key = isPromise ? Integer.parseInt(heads.group(2)) : heads.group(1).equals("Terms") ? TERMS : WHAT_IT_IS;
            String told = isPromise ? heads.group(3).replaceFirst("`[^`]*`: ", "") : heads.group(3);
            told = told.replaceAll("(?m)^(```.*|Ahead of the calls .*)$", "").replaceAll("={8} \\d", "");
            sections.put(key, plain(told));
            quoted.put(key, new boolean[plain(told).length()]);
        }
    }

    private static String plain(String text) {
        return text.replaceAll("\\s+", " ").trim();
    }

    /** What follows stands for a sentence of "What it is". */
    void uses(String quote) {
        quote(WHAT_IT_IS, "use: ", quote);
    }

    /** What follows stands for a sentence of "Terms". */
    void terms(String quote) {
        quote(TERMS, "terms: ", quote);
    }

    /** What follows stands for a sentence of a promise. */
    void promise(int n, String quote) {
        quote(n, "promise " + n + ": ", quote);
    }

    private void quote(int key, String where, String quote) {
        sentence = where + quote;
        sentences++;
        if (sections.isEmpty()) {
            return;
        }
        int from = sections.getOrDefault(key, "").indexOf(quote);
        dueTrue("the document says so", from >= 0);
        for (int i = from; from >= 0 && i < from + quote.length(); i++) {
            quoted.get(key)[i] = true;
        }
    }

    /** An answer; the line of the test tells which call it is. */
    void is(int want, int got) {
        dueTrue("answered " + got + ", due is " + want, got == want);
    }

    void all(int want, int... got) {
        for (int j = 0; j < got.length; j++) {
            dueTrue("answer " + j + " is " + got[j] + ", due is " + want, got[j] == want);
        }
    }

    void dueTrue(String what, boolean holds) {
        made++;
        if (!holds) {
            wrong++;
            System.out.println(line() + " <" + sentence + ">: " + what);
        }
    }

    private static String line() {
        return StackWalker.getInstance().walk(frames -> frames
            .filter(f -> !f.getClassName().equals("Edges"))
            .findFirst().map(f -> f.getFileName() + ":" + f.getLineNumber()).orElse("?"));
    }

    /** A call that is refused in a state that has some of all, and changes nothing there. */
    void refused(int want, ToIntFunction<FrameWalks> call) {
        refused(want, RICH, call);
    }

    /** Two objects with one history: behind a call that is refused one still looks like the other. */
    void refused(int want, Supplier<FrameWalks> history, ToIntFunction<FrameWalks> call) {
        refusedBut(Set.of(), want, history, call);
    }

    void refusedBut(Set<String> changed, int want, Supplier<FrameWalks> history, ToIntFunction<FrameWalks> call) {
        FrameWalks x = history.get();
        is(want, call.applyAsInt(x));
        Map<String, Integer> before = sights.computeIfAbsent(history, h -> Sight.of(h.get()));
        Map<String, Integer> behind = Sight.of(x);
        Set<String> keys = new TreeSet<>(before.keySet());
        keys.addAll(behind.keySet());
        keys.removeAll(changed);
        for (String key : keys) {
            dueTrue("it changed " + key + " from " + before.get(key) + " to " + behind.get(key),
                before.containsKey(key) && before.get(key).equals(behind.get(key)));
        }
    }

    /** A text that is refused: its FAULT and place, and that nothing else has changed but THE TAPE, empty then. */
    void fault(int fault, int place, String text) {
        FrameWalks x = new FrameWalks();
        is(-10 - place, Checks.tell(x, text));
        is(fault, x.fault());
        is(0, x.count(1));
        is(0, x.rule(0) + x.rule(1) + x.rule(2) + x.rule(3));
    }

    void taken(int lines, String text) {
        FrameWalks x = new FrameWalks();
        is(lines, Checks.tell(x, text));
        is(0, x.fault());
    }

    /** A text, p, s, and WORDS from 0 on. */
    static FrameWalks at(String text, int p, int s, int... words) {
        FrameWalks x = Checks.telling(text);
        x.put(P, p);
        x.put(S, s);
        Checks.pokeAll(x, 0, words);
        return x;
    }

    static final Supplier<FrameWalks> RICH = Edges::rich;

    /** Some of all: four FRAMES (15 of a fun, 30 of a sig, 16 of the fun, none), IMAGE 0, SHEETS 0 and 1, FAULT 1. */
    private static FrameWalks rich() {
        FrameWalks x = Checks.telling("fun 10 19;go 2;save a 2;in b c;mark;land 10 19 1 5;land 12 12 0 6;sig 30 39;"
            + "call 12 30;");
        x.put(C, 55);
        x.put(S, 3);
        x.put(P, 15);
        Checks.pokeAll(x, 2, 77, 31, 16, 0);
        x.keep(0);
        x.put(A, 41);
        x.poke(40, 42);
        x.move(1, 1, 38);
        x.alter(0, 3);
        x.walk(0);
        x.sheet(0, 1, 3);
        x.lay(0, 0, 8);
        x.lay(0, 2, 9999);
        x.sheet(1, 0, 2);
        x.lay(1, 1, 7);
        x.read(0, 2, 0, 1, 0);
        Checks.tell(x, "#");
        Checks.feed(x, "fun 1 2;off 7;");
        return x;
    }

    void close() {
        sections.forEach((key, told) -> {
            String rest = key == WHAT_IT_IS ? "" : notQuoted(told, quoted.get(key));
            sentence = key == TERMS ? "terms" : "promise " + key;
            dueTrue("no test quotes <" + rest + ">", rest.isEmpty());
        });
        sentence = "all promises";
        dueTrue("the document has 32 promises", sections.isEmpty() || sections.containsKey(32));
        System.out.println("EdgesTest: " + sentences + " sentences, " + made + " answers, " + wrong + " not as due");
        if (wrong != 0) {
            System.exit(1);
        }
    }

    private static String notQuoted(String told, boolean[] isQuoted) {
        StringBuilder rest = new StringBuilder();
        for (int i = 0; i < isQuoted.length; i++) {
            if (!isQuoted[i] && Character.isLetterOrDigit(told.charAt(i))) {
                rest.append(told.charAt(i));
            }
        }
        return rest.toString();
    }
}
