import java.nio.file.Files;
import java.nio.file.Path;
import java.util.ArrayList;
import java.util.List;

/**
 * Tests of single sentences: each cites the words of the document that it holds the program to, on a new object of its
 * own. What is cited must stand in the document, and of what stands there nothing may be left out.
 */
abstract class Edges {
    static final int MIN = Integer.MIN_VALUE, MAX = Integer.MAX_VALUE;
    static final int NONE = -1, BAD = -2, NOT = -3, FULL = -4;
    static final int NULL = -11, INDEX = -12, CAST = -13, STORE = -14, SIZE = -15;
    /** Where words are cited that stand ahead of the promises. */
    static final int TERMS = 0;
    private static final int PROMISES = 41;

    private static final String[] sections = sections();
    private static final boolean[][] cited = new boolean[PROMISES + 1][];
    private static final List<String> wrong = new ArrayList<>();
    private static String label = "";
    private static int edges = 0;
    private static int asked = 0;

    interface Test {
        void on(TenCoins x);
    }

    static void edge(int promise, String words, Test test) {
        label = (promise == TERMS ? "terms" : "promise " + promise) + " \"" + words + "\"";
        cite(promise, words);
        edges++;
        int before = asked;
        test.on(new TenCoins());
        if (asked == before) {
            wrong.add(label + ": nothing was asked");
        }
    }

    static void due(String call, long got, long want) {
        asked++;
        if (got != want) {
            wrong.add(label + ": " + call + " answered " + got + ", due is " + want);
        }
    }

    static void fraction(String call, long above, long below, long wantAbove, long wantBelow) {
        due(call + ", above", above, wantAbove);
        due(call + ", below", below, wantBelow);
    }

    /** How a refusal is told where the answer is a long. */
    static long told(int refusal) {
        return Long.MIN_VALUE - refusal;
    }

    static int[] outside(int from, int to) {
        return new int[] {from - 1, to + 1, from - 2, to + 2, MIN, MAX};
    }

    interface Asked {
        long with(int number);
    }

    /** A number that is taken from one bound to the other, and refused on both sides of them. */
    static void bounds(String call, int from, int to, Asked asking, long refusal) {
        for (int number : outside(from, to)) {
            due(call + " with " + number, asking.with(number), refusal);
        }
        due(call + " with " + from + " is refused", asking.with(from) == refusal ? 1 : 0, 0);
        due(call + " with " + to + " is refused", asking.with(to) == refusal ? 1 : 0, 0);
    }

    /** A refused call leaves all that can be asked as it was, but for the number of the latest finding. */
    static void keeps(String call, Test made, Test refused, int findingThen) {
        for (int part = 0; part < Snapshot.PARTS; part++) {
            TenCoins with = new TenCoins();
            TenCoins without = new TenCoins();
            made.on(with);
            made.on(without);
            refused.on(with);
            if (part == 0) {
                due(call + ": count(8) behind it", with.count(8), findingThen);
            }
            String then = Snapshot.of(with, part);
            due(call + " changed part " + part, then.equals(Snapshot.of(without, part)) ? 0 : 1, 0);
        }
    }

    static void typeAll(TenCoins x, String text) {
        x.wipe();
        for (int i = 0; i < text.length(); i++) {
            x.type(text.charAt(i));
        }
    }

    static void tell(TenCoins x, int people, int kind, int answer, int... offers) {
        for (int offer : offers) {
            x.pair(people, kind, offer, answer, 0);
        }
    }

    static void fill(TenCoins x, int s, int form, int... items) {
        x.sheet(s, form, items.length);
        for (int i = 0; i < items.length; i++) {
            x.put(s, form, i, items[i]);
        }
    }

    static void items(String call, TenCoins x, int s, int form, int... wanted) {
        for (int i = 0; i < wanted.length; i++) {
            due(call + ", item " + i, x.get(s, form, i), wanted[i]);
        }
        x.get(s, form, wanted.length);
        due(call + ", no item more", x.count(8), 2);
    }

    // ---- the document

    private static String[] sections() {
        String text;
        try {
            text = Files.readString(Path.of("../shared/DOC.md"));
        } catch (java.io.IOException e) {
            throw new IllegalStateException("../shared/DOC.md can't be read", e);
        }
        text = text.replaceAll("\\s+", " ");
        String[] found = new String[PROMISES + 1];
        found[TERMS] = between(text, "======== 1 ", "## The public face") + " " + between(text, "## Terms ", "Ahead of the calls");
        for (int promise = 1; promise <= PROMISES; promise++) {
            String section = between(text, "## Promise " + promise + ": ", promise < PROMISES ? "## Promise" : "## Not promised");
            found[promise] = section.substring(section.indexOf("`: ") + 3);
        }
        return found;
    }

    private static String between(String text, String from, String to) {
        int start = text.indexOf(from) + from.length();
        return text.substring(start, text.indexOf(to, start));
    }

    private static void cite(int promise, String words) {
        String section = sections[promise];
        if (cited[promise] == null) {
            cited[promise] = new boolean[section.length()];
        }
        int at = section.indexOf(words);
        if (at < 0) {
            wrong.add(label + ": these words do not stand there");
        }
        for (; at >= 0; at = section.indexOf(words, at + 1)) {
            for (int k = 0; k < words.length(); k++) {
                cited[promise][at + k] = true;
            }
        }
    }

    private static void lookForWordsLeftOut() {
        for (int promise = 0; promise <= PROMISES; promise++) {
            StringBuilder left = new StringBuilder();
            for (int k = 0; k < sections[promise].length(); k++) {
                boolean here = cited[promise] != null && cited[promise][k];
                left.append(here ? '\n' : sections[promise].charAt(k));
            }
            for (String words : left.toString().replaceAll("======== \\d|```text|```", "\n").split("\n")) {
                if (words.matches(".*\\w.*")) {
                    wrong.add("section " + promise + ": no test cites \"" + words.trim() + "\"");
                }
            }
        }
    }

    static void done() {
        lookForWordsLeftOut();
        for (String line : wrong) {
            System.out.println(line);
        }
        System.out.println(edges + " edges, " + asked + " answers, " + wrong.size() + " not as due");
        if (!wrong.isEmpty()) {
            System.exit(1);
        }
    }
}
