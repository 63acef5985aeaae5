import java.io.IOException;
import java.lang.reflect.Constructor;
import java.lang.reflect.Field;
import java.lang.reflect.Method;
import java.lang.reflect.Modifier;
import java.nio.file.Files;
import java.nio.file.Path;
import java.util.Arrays;
import java.util.List;
import java.util.Set;
import java.util.TreeSet;
import java.util.regex.Matcher;
import java.util.regex.Pattern;

/** What of LANGUAGE.md can be seen from outside: the face (rule 1), and what may not stand in the source. */
public final class LanguageTest {
    private static final Checks checks = new Checks();
    private static final List<String> FACE = List.of("feed(1)", "end(1)", "text(0)", "fault(0)", "rule(1)", "routine(2)",
        "op(2)", "landing(2)", "call(2)", "whose(1)", "row(2)", "ruleOf(3)", "put(2)", "poke(2)", "get(1)", "peek(1)",
        "walk(1)", "frame(2)", "came(2)", "guess(4)", "caught(2)", "cleaned(2)", "move(3)", "alter(2)", "keep(1)",
        "back(1)", "sheet(3)", "lay(3)", "read(5)", "torn(0)", "count(1)");
    private static final List<String> BANNED = List.of("\\bthrow\\b", "\\bthrows\\b", "\\btry\\b", "\\bcatch\\b",
        "\\bsynchronized\\b", "\\bassert\\b", "->", "::", "\\bprotected\\b", "\\bObject\\b", "\\bvar\\b", "Exact\\b",
        "\\bSystem\\.(?!arraycopy)", "\\bimport (?!java\\.util\\.(Arrays|ArrayList|List|Iterator);)", "\\bpackage\\b",
        "\\bnew [A-Z]\\w*\\([^;]*\\) *\\{", "static \\{", "\\bhashCode\\b", "\\btoString\\b", "\\bdouble\\b", "\\bfloat\\b",
        "\\bMath\\.(random|floor\\()", "static (?!final|boolean|int|String|Table|private)[a-zA-Z]+");

    public static void main(String[] args) throws IOException {
        String source = Files.readString(Path.of("src/main/java/FrameWalks.java"));
        face();
        classesInside();
        words(source);
        lengths(source);
        checks.close("LanguageTest");
    }

    private static void face() {
        Class<?> face = FrameWalks.class;
        checks.due("modifiers", face.getModifiers(), Modifier.PUBLIC | Modifier.FINAL);
        Set<String> methods = new TreeSet<>();
        for (Method m : face.getDeclaredMethods()) {
            if (Modifier.isPublic(m.getModifiers())) {
                methods.add(m.getName() + "(" + m.getParameterCount() + ")");
                checks.dueTrue("int by ints: " + m.getName(), m.getReturnType() == int.class
                    && Arrays.stream(m.getParameterTypes()).allMatch(t -> t == int.class));
                checks.dueTrue("not static: " + m.getName(), !Modifier.isStatic(m.getModifiers()));
            } else {
                checks.dueTrue("private: " + m.getName(), Modifier.isPrivate(m.getModifiers()));
            }
        }
        checks.dueTrue("the methods are " + methods, methods.equals(new TreeSet<>(FACE)));
        for (Constructor<?> c : face.getDeclaredConstructors()) {
            checks.due("constructor", c.getModifiers() * 10 + c.getParameterCount(), Modifier.PUBLIC * 10);
        }
        Set<String> constants = new TreeSet<>();
        for (Field f : face.getDeclaredFields()) {
            if (Modifier.isPublic(f.getModifiers())) {
                constants.add(f.getName());
                checks.due("constant", f.getModifiers(), Modifier.PUBLIC | Modifier.STATIC | Modifier.FINAL);
            } else {
                checks.dueTrue("private: " + f.getName(), Modifier.isPrivate(f.getModifiers()));
            }
        }
        checks.dueTrue("constants", constants.equals(Set.of("BAD", "STATE", "FULL", "NONE")));
    }

    private static void classesInside() {
        Class<?>[] inside = FrameWalks.class.getDeclaredClasses();
        checks.dueTrue("at most 12 classes", inside.length < 12);
        for (Class<?> one : inside) {
            checks.dueTrue("static: " + one, Modifier.isStatic(one.getModifiers()));
            checks.dueTrue("not public: " + one, !Modifier.isPublic(one.getModifiers()));
            for (Method m : one.getDeclaredMethods()) {
                boolean ofFace = FACE.stream().anyMatch(f -> f.startsWith(m.getName() + "("));
                checks.dueTrue("a name of its own: " + one + " " + m.getName(), !ofFace);
                checks.dueTrue("parameters: " + m, m.getParameterCount() <= 7);
            }
            fields(one);
        }
        fields(FrameWalks.class);
    }

    private static void fields(Class<?> one) {
        int own = 0;
        for (Field f : one.getDeclaredFields()) {
            boolean isStatic = Modifier.isStatic(f.getModifiers());
            own += isStatic ? 0 : 1;
            checks.dueTrue("final: " + f, !isStatic || Modifier.isFinal(f.getModifiers()));
        }
        checks.dueTrue("at most 20 fields: " + one, own <= 20);
    }

    private static void words(String source) {
        checks.dueTrue("signs 1 to 127", source.chars().allMatch(c -> c > 0 && c < 128));
        String code = source.replaceAll("(?s)/\\*.*?\\*/", "").replaceAll("//[^\n]*", "");
        for (String banned : BANNED) {
            Matcher m = Pattern.compile(banned).matcher(code);
            boolean found = m.find();
            checks.dueTrue("nothing like <" + banned + ">" + (found ? ": " + m.group() : ""), !found);
        }
    }

    private static void lengths(String source) {
        String[] lines = source.split("\n");
        int from = -1;
        String indent = "";
        for (int i = 0; i < lines.length; i++) {
            Matcher head = Pattern.compile("( {4}| {8})\\w.*\\) \\{").matcher(lines[i]);
            if (from < 0 && head.matches()) {
                from = i;
                indent = head.group(1);
            } else if (from >= 0 && lines[i].equals(indent + "}")) {
                checks.dueTrue("at most 60 lines: " + lines[from], i - from < 60);
                from = -1;
            }
            checks.dueTrue("a line of at most 120 signs: " + (i + 1), lines[i].length() <= 120);
        }
    }
}
