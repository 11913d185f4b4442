import java.io.IOException;
import java.lang.reflect.Method;
import java.lang.reflect.Modifier;
import java.net.URL;
import java.net.URLClassLoader;
import java.nio.file.Files;
import java.nio.file.Path;
import java.util.List;
import java.util.regex.Matcher;
import java.util.regex.Pattern;
import java.util.stream.Stream;
import javax.tools.ToolProvider;

/** README.md: its calls answer as it says, and it names every call and every test. */
public final class ReadmeTest {
    private static final Pattern BLOCK = Pattern.compile("(?s)```java\n(.*?)```");
    private static final Pattern CALL = Pattern.compile("(x\\.\\w+\\(.*\\)); *// ([^:]+)(:.*)?");
    private static final Due d = new Due();
    private static int shown = 0;

    public static void main(String[] args) throws Exception {
        String readme = Files.readString(Path.of("README.md"));
        namesEveryCall(readme);
        namesEveryTest(readme);
        run(programOf(readme));
        d.due("README shows calls of every group", shown >= 40 ? 1 : 0, 1);
        d.done();
    }

    /** Called by the program that is made of the page. */
    public static void answered(String call, long got, long want) {
        d.due("README: " + call, got, want);
    }

    private static void namesEveryCall(String readme) {
        for (Method method : TenCoins.class.getDeclaredMethods()) {
            if (Modifier.isPublic(method.getModifiers())) {
                d.due("README shows " + method.getName(), readme.contains("x." + method.getName() + "(") ? 1 : 0, 1);
            }
        }
    }

    private static void namesEveryTest(String readme) throws IOException {
        try (Stream<Path> files = Files.list(Path.of("src/test/java"))) {
            for (Path file : (Iterable<Path>) files::iterator) {
                String name = file.getFileName().toString().replace(".java", "");
                if (name.endsWith("Test")) {
                    d.due("README's table has " + name, readme.contains("| " + name + " |") ? 1 : 0, 1);
                }
            }
        }
    }

    /** The page's blocks one after the other, each call with an answer behind it held to that answer. */
    private static String programOf(String readme) {
        StringBuilder program = new StringBuilder("public class Shown {\n    public static void main(String[] args) {\n");
        Matcher block = BLOCK.matcher(readme);
        while (block.find()) {
            for (String line : block.group(1).split("\n")) {
                Matcher call = CALL.matcher(line);
                if (call.matches()) {
                    shown++;
                    line = "ReadmeTest.answered(\"" + call.group(1) + "\", " + call.group(1) + ", " + call.group(2) + ");";
                }
                program.append(line).append('\n');
            }
        }
        return program.append("    }\n}\n").toString();
    }

    private static void run(String program) throws Exception {
        Path room = Files.createTempDirectory("readme");
        Path file = Files.writeString(room.resolve("Shown.java"), program);
        String classes = System.getProperty("java.class.path");
        int failed = ToolProvider.getSystemJavaCompiler().run(null, null, null, "-cp", classes, "-d", room.toString(), file.toString());
        d.due("README's calls compile", failed, 0);
        if (failed == 0) {
            try (URLClassLoader loader = new URLClassLoader(new URL[] {room.toUri().toURL()})) {
                loader.loadClass("Shown").getMethod("main", String[].class).invoke(null, (Object) new String[0]);
            }
        }
        for (Path made : List.of(file, room.resolve("Shown.class"), room)) {
            Files.deleteIfExists(made);
        }
    }
}
