import java.io.IOException;
import java.lang.reflect.Method;
import java.lang.reflect.Modifier;
import java.net.URL;
import java.net.URLClassLoader;
import java.nio.file.Files;
import java.nio.file.Path;
import java.util.ArrayList;
import java.util.Comparator;
import java.util.List;
import java.util.Set;
import java.util.TreeSet;
import java.util.regex.Matcher;
import java.util.regex.Pattern;
import java.util.stream.Stream;
import javax.tools.JavaCompiler;
import javax.tools.ToolProvider;

/** README.md is run as it stands: its Java blocks are one program, and each number behind // is an answer that is due. */
public final class ReadmeTest {
    private static final Checks checks = new Checks();
    private static final Pattern BLOCK = Pattern.compile("(?s)```java\n(.*?)```");
    private static final Pattern CALL = Pattern.compile("((?:x\\.\\w+|tell)\\(.*\\)); *// (-?\\d+)\\b.*");
    private static final Pattern CONSTANT = Pattern.compile("(int (\\w+) = FrameWalks\\.\\w+;) *// (-?\\d+)\\b.*");
    private static final int LEAST_ANSWERS = 40;
    private static final int MOST_CALLS = 512;

    public static void main(String[] args) throws Exception {
        String page = Files.readString(Path.of("README.md"));
        answers(page);
        callsAreOfTheFace(page);
        tableNamesTests(page);
        checks.close("ReadmeTest");
    }

    /** The program calls this for each answer that the page shows. */
    public static void shown(String call, int got, int want) {
        checks.due("README.md: " + call, got, want);
    }

    private static List<String> blocks(String page) {
        List<String> blocks = new ArrayList<>();
        Matcher m = BLOCK.matcher(page);
        while (m.find()) {
            blocks.add(m.group(1));
        }
        return blocks;
    }

    private static void answers(String page) throws Exception {
        StringBuilder functions = new StringBuilder();
        StringBuilder body = new StringBuilder();
        int due = 0;
        for (String block : blocks(page)) {
            if (block.startsWith("static ")) {
                functions.append(block);
                continue;
            }
            for (String line : block.split("\n")) {
                String turned = turned(line);
                due += turned.startsWith(line) ? 0 : 1;
                body.append(turned).append('\n');
            }
        }
        checks.dueTrue("the page shows " + due + " answers", due >= LEAST_ANSWERS);
        run("public final class Shown {\n" + functions + "public static void main(String[] args) {\n" + body + "}\n}\n");
    }

    /** A line as it is run: what is told behind // is compared. */
    private static String turned(String line) {
        Matcher call = CALL.matcher(line);
        if (call.matches()) {
            String told = call.group(1).replace("\\", "\\\\").replace("\"", "\\\"");
            return "ReadmeTest.shown(\"" + told + "\", " + call.group(1) + ", " + call.group(2) + ");";
        }
        Matcher constant = CONSTANT.matcher(line);
        if (constant.matches()) {
            String name = constant.group(2);
            return constant.group(1) + " ReadmeTest.shown(\"" + name + "\", " + name + ", " + constant.group(3) + ");";
        }
        checks.dueTrue("README.md tells no answer: " + line, !line.matches("(x\\.|tell\\().*") && !line.contains("//"));
        return line;
    }

    private static void run(String program) throws Exception {
        JavaCompiler compiler = ToolProvider.getSystemJavaCompiler();
        checks.dueTrue("there is a compiler", compiler != null);
        if (compiler == null) {
            return;
        }
        Path out = Files.createTempDirectory("readme");
        try {
            Path file = Files.writeString(out.resolve("Shown.java"), program);
            int refused = compiler.run(null, null, null, "-cp", System.getProperty("java.class.path"), "-d",
                out.toString(), file.toString());
            checks.due("what the page shows is compiled", refused, 0);
            if (refused == 0) {
                start(out);
            }
        } finally {
            remove(out);
        }
    }

    private static void start(Path out) throws Exception {
        try (URLClassLoader loader = new URLClassLoader(new URL[] {out.toUri().toURL()}, ReadmeTest.class.getClassLoader())) {
            loader.loadClass("Shown").getMethod("main", String[].class).invoke(null, (Object) new String[0]);
        }
    }

    private static void remove(Path out) throws IOException {
        try (Stream<Path> all = Files.walk(out)) {
            for (Path one : all.sorted(Comparator.reverseOrder()).toList()) {
                Files.delete(one);
            }
        }
    }

    /** Each call of the face is shown, and all of them, with each byte that is fed, stay within an object's calls. */
    private static void callsAreOfTheFace(String page) {
        String all = String.join("", blocks(page));
        int calls = all.split("\\b(x\\.\\w+|tell)\\(").length - 1;
        Matcher fed = Pattern.compile("\"([^\"]*)\"").matcher(all);
        while (fed.find()) {
            calls += fed.group(1).length();
        }
        checks.dueTrue("an object is good for 512 calls, the page makes " + calls, calls <= MOST_CALLS);
        for (Method m : FrameWalks.class.getDeclaredMethods()) {
            boolean isPublic = Modifier.isPublic(m.getModifiers());
            checks.dueTrue("the page shows " + m.getName(), !isPublic || all.contains("x." + m.getName() + "("));
        }
    }

    private static void tableNamesTests(String page) throws IOException {
        Set<String> named = new TreeSet<>();
        Matcher m = Pattern.compile("(?m)^\\| `(\\w+)` \\|").matcher(page);
        while (m.find()) {
            named.add(m.group(1));
        }
        Set<String> there = new TreeSet<>();
        try (Stream<Path> files = Files.list(Path.of("src/test/java"))) {
            files.map(f -> f.getFileName().toString()).filter(f -> f.endsWith("Test.java"))
                .forEach(f -> there.add(f.substring(0, f.length() - ".java".length())));
        }
        checks.dueTrue("the page names " + named + ", there are " + there, named.equals(there));
    }
}
