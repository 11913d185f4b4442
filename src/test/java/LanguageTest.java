import java.lang.management.ManagementFactory;
import java.lang.reflect.Field;
import java.lang.reflect.Method;
import java.lang.reflect.Modifier;
import java.nio.charset.StandardCharsets;
import java.nio.file.Files;
import java.nio.file.Path;
import java.util.ArrayList;
import java.util.List;
import java.util.Set;
import java.util.TreeSet;
import java.util.regex.Matcher;
import java.util.regex.Pattern;

/** The face of the class, some rules of LANGUAGE.md, and the room that calls take. */
public final class LanguageTest {
    private static final Path PROGRAM = Path.of("src/main/java/TenCoins.java");
    private static final Path DOCUMENT = Path.of("../shared/DOC.md");
    private static final Due d = new Due();

    public static void main(String[] args) throws Exception {
        face();
        nestedClasses();
        words();
        methodLengths();
        room();
        d.done();
    }

    private static void face() throws Exception {
        Set<String> wanted = new TreeSet<>();
        Matcher m = Pattern.compile("    public (int|long) (\\w+)\\(([^)]*)\\);").matcher(Files.readString(DOCUMENT));
        while (m.find()) {
            wanted.add(m.group(1) + " " + m.group(2) + " " + (m.group(3).isEmpty() ? 0 : m.group(3).split(",").length));
        }
        d.due("face: methods in the document", wanted.size(), 40);
        Set<String> found = new TreeSet<>();
        Set<String> privates = new TreeSet<>();
        for (Method method : TenCoins.class.getDeclaredMethods()) {
            if (Modifier.isPublic(method.getModifiers())) {
                found.add(method.getReturnType() + " " + method.getName() + " " + method.getParameterCount());
            } else {
                privates.add(method.getName());
                holds(Modifier.isPrivate(method.getModifiers()), "private: " + method);
            }
        }
        holds(found.equals(wanted), "face: " + found);
        for (String line : found) {
            holds(!privates.contains(line.split(" ")[1]), "a private method bears the name of " + line);
        }
        Set<String> constants = new TreeSet<>();
        for (Field field : TenCoins.class.getDeclaredFields()) {
            if (!Modifier.isPrivate(field.getModifiers())) {
                constants.add(field.getName() + " " + field.getInt(null));
            }
        }
        holds(constants.equals(Set.of("NONE -1", "BAD -2", "NOT -3", "FULL -4")), "constants: " + constants);
        d.due("face: constructors", TenCoins.class.getDeclaredConstructors().length, 1);
        holds(Modifier.isFinal(TenCoins.class.getModifiers()), "final");
    }

    private static void nestedClasses() {
        Class<?>[] nested = TenCoins.class.getDeclaredClasses();
        holds(nested.length <= 11, "classes: " + nested.length);
        for (Class<?> c : nested) {
            int modifiers = c.getModifiers();
            holds(Modifier.isStatic(modifiers) && !Modifier.isPublic(modifiers) && !Modifier.isProtected(modifiers), c + "");
            long fields = List.of(c.getDeclaredFields()).stream().filter(f -> !Modifier.isStatic(f.getModifiers())).count();
            holds(fields <= 20, "fields of " + c + ": " + fields);
            for (Method inside : c.getDeclaredMethods()) {
                boolean isPublicName = List.of(TenCoins.class.getMethods()).stream().anyMatch(m -> m.getName().equals(inside.getName()));
                holds(!isPublicName, c + " has a method of the face's name " + inside.getName());
            }
        }
    }

    private static void words() throws Exception {
        String source = Files.readString(PROGRAM, StandardCharsets.US_ASCII);
        String code = source.replaceAll("(?s)/\\*.*?\\*/", "").replaceAll("//[^\n]*", "");
        String[] ruledOut = {"\\bthrow\\b", "\\bthrows\\b", "\\btry\\b", "\\bcatch\\b", "\\bsynchronized\\b", "\\bassert\\b",
            "->", "::", "Exact\\b", "\\bpackage\\b", "\\bprotected\\b", "\\bdouble\\b", "\\bfloat\\b", "\\brandom\\b",
            "\\bhashCode\\b", "\\btoString\\b", "System\\.(?!arraycopy)", "import (?!java\\.util\\.Arrays;)", "\\bwhile\\b",
            "static \\{", "Integer\\.M", "Long\\.M"};
        for (String word : ruledOut) {
            holds(!Pattern.compile(word).matcher(code).find(), "not in the program: " + word);
        }
        for (String line : code.split("\n")) {
            holds(!line.contains("new ") || line.trim().startsWith("private final "), "made by the constructor: " + line);
        }
    }

    private static void methodLengths() throws Exception {
        int start = -1;
        List<String> lines = Files.readAllLines(PROGRAM);
        List<String> longOnes = new ArrayList<>();
        for (int k = 0; k < lines.size(); k++) {
            String line = lines.get(k);
            if (line.matches(" {4,8}(public|private) .*\\) \\{")) {
                start = k;
            }
            if (start >= 0 && line.matches(" {4,8}\\}")) {
                if (k - start > 60) {
                    longOnes.add(lines.get(start));
                }
                start = -1;
            }
        }
        holds(longOnes.isEmpty(), "long methods: " + longOnes);
    }

    /** An object's calls make nothing: what its constructor makes is all. */
    private static void room() {
        com.sun.management.ThreadMXBean threads = (com.sun.management.ThreadMXBean) ManagementFactory.getThreadMXBean();
        TenCoins x = new TenCoins();
        dearCalls(x);
        long before = threads.getThreadAllocatedBytes(Thread.currentThread().getId());
        for (int k = 0; k < 100; k++) {
            dearCalls(x);
        }
        long made = threads.getThreadAllocatedBytes(Thread.currentThread().getId()) - before;
        holds(made < 10000, "bytes made by calls: " + made);
    }

    private static void dearCalls(TenCoins x) {
        x.wipe();
        for (int k = 0; k < 60; k++) {
            x.type(k % 2 == 0 ? 'g' : '(');
        }
        x.pair(0, 0, 5, 1, 0);
        x.pair(1, 0, 6, 0, 0);
        x.thing(1, 2, 3, 4);
        x.row(0, 1365);
        x.belief(0);
        x.round(5, 1);
        x.sheet(0, 2, 48);
        x.read(0, 0, 0, 0);
        x.copy(0, 0, 0, 1, 40);
        x.write(-1, 0, 0);
        x.two(0, 1);
        x.looked();
        x.odds(-1, 0, 0);
        x.off(0, 0, 0);
        x.moves(0, 0, 0);
        x.digest();
    }

    private static void holds(boolean fits, String what) {
        d.due(what, fits ? 1 : 0, 1);
    }
}
