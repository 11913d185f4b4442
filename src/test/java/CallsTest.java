import java.io.File;
import java.io.PrintWriter;
import java.io.StringWriter;
import java.nio.file.Path;
import java.util.ArrayList;
import java.util.List;
import java.util.Map;
import java.util.Set;
import java.util.TreeMap;
import java.util.TreeSet;
import java.util.regex.Matcher;
import java.util.regex.Pattern;
import java.util.spi.ToolProvider;

/** LANGUAGE.md by the compiled class: what is called, how deep, where something is made, and what divides. */
public final class CallsTest {
    private static final int DEEPEST = 8;
    private static final Set<String> LIBRARY = Set.of("java/lang/Object.<init>", "java/lang/Math.abs", "java/lang/Math.max",
        "java/lang/Math.min", "java/lang/Integer.bitCount", "java/lang/Integer.compare", "java/util/Arrays.fill",
        "java/lang/System.arraycopy");
    /** Each looks at its divisor first, or divides by two. */
    private static final Set<String> DIVIDING = Set.of("TenCoins.fraction", "TenCoins.greatestDivisor", "TenCoins.millionths",
        "TenCoins.read");
    private static final Pattern METHOD = Pattern.compile("  \\S.*?([\\w$]+)\\([^)]*\\)( throws .*)?;");
    private static final Pattern CALL = Pattern.compile(" +\\d+: invoke\\w+ .*// (?:Interface)?Method ([^:]+):.*");
    private static final Pattern STEP = Pattern.compile(" +\\d+: (\\w+).*");

    private static final Map<String, Set<String>> called = new TreeMap<>();
    private static final Map<String, Set<String>> steps = new TreeMap<>();
    private static final Due d = new Due();

    public static void main(String[] args) {
        for (String line : listing()) {
            take(line);
        }
        d.due("methods are found", called.containsKey("TenCoins.digest") && called.size() > 100 ? 1 : 0, 1);
        for (String method : called.keySet()) {
            depthIsWithin(method, new ArrayList<>());
            libraryIsListed(method);
            stepsAreFine(method);
        }
        d.done();
    }

    private static String inClass = "";
    private static String inMethod = "";

    private static void take(String line) {
        if (line.matches("(\\w+ )*class .*\\{")) {
            inClass = line.replaceAll(".*class (\\S+).*", "$1");
            return;
        }
        Matcher method = METHOD.matcher(line);
        if (method.matches()) {
            inMethod = inClass + "." + (method.group(1).equals(inClass) ? "<init>" : method.group(1));
            called.putIfAbsent(inMethod, new TreeSet<>());
            steps.putIfAbsent(inMethod, new TreeSet<>());
            return;
        }
        Matcher call = CALL.matcher(line);
        if (call.matches()) {
            String name = call.group(1).replace("\"", "");
            called.get(inMethod).add(name.contains(".") ? name : inClass + "." + name);
        }
        Matcher step = STEP.matcher(line);
        if (step.matches()) {
            steps.get(inMethod).add(step.group(1));
        }
        d.due("catches: " + inMethod, line.contains("Exception table") ? 1 : 0, 0);
    }

    private static List<String> listing() {
        String classes = System.getProperty("java.class.path");
        File[] files = Path.of(classes).toFile().listFiles((in, name) -> name.matches("TenCoins(\\$\\w+)?\\.class"));
        List<String> ask = new ArrayList<>(List.of("-c", "-p"));
        for (File file : files) {
            ask.add(file.getPath());
        }
        StringWriter out = new StringWriter();
        PrintWriter writer = new PrintWriter(out, true);
        d.due("javap", ToolProvider.findFirst("javap").orElseThrow().run(writer, writer, ask.toArray(new String[0])), 0);
        return out.toString().lines().toList();
    }

    private static void depthIsWithin(String method, List<String> above) {
        boolean again = above.contains(method);
        List<String> way = new ArrayList<>(above);
        way.add(method);
        if (again || way.size() > DEEPEST) {
            d.due((again ? "calls itself: " : "too deep: ") + way, 1, 0);
            return;
        }
        for (String next : called.getOrDefault(method, Set.of())) {
            depthIsWithin(next, way);
        }
    }

    private static void libraryIsListed(String method) {
        for (String name : called.get(method)) {
            d.due(method + " calls " + name, name.startsWith("TenCoins") || LIBRARY.contains(name) ? 1 : 0, 1);
        }
    }

    private static void stepsAreFine(String method) {
        for (String step : steps.get(method)) {
            d.due(method + ": " + step, step.matches("athrow|monitor.*|invokedynamic|checkcast") ? 1 : 0, 0);
            if (step.matches("new|newarray|anewarray|multianewarray")) {
                d.due(method + " makes something", method.endsWith("<init>") ? 1 : 0, 1);
            }
            if (step.matches("[il](div|rem)")) {
                d.due(method + " divides", DIVIDING.contains(method) ? 1 : 0, 1);
            }
        }
    }
}
