import java.util.Random;

/** All promises: runs of up to 512 calls by chance, the program and the plain one side by side. */
public final class RandomTest {
    private static final int RUNS = 1500;
    private static final int CALLS = 512;
    private static final String[] NAMES = {"pair", "read", "takeBack", "asOf", "many", "mean", "refused", "moves", "row",
        "line", "taken", "best", "belief", "believe", "hisBest", "off", "type", "wipe", "fault", "reckon", "how", "temper",
        "two", "thing", "goes", "looked", "story", "odds", "round", "forget", "misses", "learnt", "sheet", "lose", "put",
        "get", "copy", "write", "count", "digest"};
    private static final int[] SELDOM = {17, 29, 33, 2};

    private static Random chance;
    private static TenCoins x;
    private static PlainCoins y;
    private static int clock;
    private static int wildness;
    private static int mostOffer;
    private static int mostNumber;
    private static String pending = "";

    public static void main(String[] args) {
        int asked = 0;
        int[] wellAnswered = new int[NAMES.length];
        for (int run = 0; run < RUNS; run++) {
            chance = new Random(run);
            x = new TenCoins();
            y = new PlainCoins();
            clock = 0;
            pending = "";
            wildness = new int[] {0, 3, 12}[run % 3];
            // Few offers and numbers make like means and like things.
            mostOffer = run % 5 < 2 ? 2 : 10;
            mostNumber = run % 5 < 2 ? 2 : 99;
            StringBuilder log = new StringBuilder();
            int favourite = chance.nextInt(NAMES.length);
            for (int call = 0; call < CALLS; call++) {
                int which = pick(favourite, run % 2 == 0);
                int[] a = arguments(which);
                long got = ask(which, a, true);
                long want = ask(which, a, false);
                asked++;
                log.append(NAMES[which]).append(java.util.Arrays.toString(a)).append(" = ").append(got).append('\n');
                if (got != want) {
                    System.out.println("run " + run + ":\n" + log + "due is " + want);
                    System.exit(1);
                }
                wellAnswered[which] += got >= -1 && got != Long.MIN_VALUE ? 1 : 0;
            }
        }
        for (int which = 0; which < NAMES.length; which++) {
            if (wellAnswered[which] < RUNS / 4) {
                System.out.println(NAMES[which] + " was seldom answered but by a refusal: " + wellAnswered[which]);
                System.exit(1);
            }
        }
        System.out.println(asked + " answers by chance, 0 not as due");
    }

    private static int pick(int favourite, boolean gamesToo) {
        if (gamesToo && !pending.isEmpty() && chance.nextInt(4) != 0) {
            return 16;
        }
        if (gamesToo && pending.isEmpty() && chance.nextInt(3) == 0) {
            return y.fault() == -1 ? new int[] {19, 20, 21, 17}[chance.nextInt(4)] : 17;
        }
        int which = chance.nextInt(6) == 0 ? favourite : chance.nextInt(NAMES.length);
        for (int seldom : SELDOM) {
            if (which == seldom && chance.nextInt(8) != 0) {
                return 0;
            }
        }
        return which;
    }

    /** Mostly from..to, at times a little or far beyond. */
    private static int some(int from, int to) {
        if (chance.nextInt(100) < wildness) {
            int[] beyond = {from - 1, to + 1, from - 2, to + 2, Integer.MIN_VALUE, Integer.MAX_VALUE, chance.nextInt()};
            return beyond[chance.nextInt(beyond.length)];
        }
        return from + chance.nextInt(to - from + 1);
    }

    private static int people() {
        return some(-1, 3);
    }

    private static int time() {
        if (chance.nextInt(3) == 0) {
            clock += chance.nextInt(6);
        }
        if (chance.nextInt(100) < wildness) {
            // Seldom far ahead, for nothing can be told behind that.
            int[] others = {clock - 1, clock - 5, clock + 1, -1, 1000, Integer.MIN_VALUE, Integer.MAX_VALUE};
            return chance.nextInt(30) == 0 ? some(0, 999) : others[chance.nextInt(others.length)];
        }
        return clock;
    }

    private static int letter() {
        if (pending.isEmpty()) {
            return chance.nextInt(20) == 0 ? some(0, 255) : "ga(t0123456789,)".charAt(chance.nextInt(16));
        }
        char next = pending.charAt(0);
        pending = pending.substring(1);
        return chance.nextInt(400) < wildness ? some(0, 255) : next;
    }

    private static String game() {
        String text = node(3);
        for (int k = 0; k < 5 && (text.length() > 60 || text.length() == 3); k++) {
            text = node(3);
        }
        return text;
    }

    private static String node(int depth) {
        if (depth == 0 || chance.nextInt(4) == 0) {
            return "" + chance.nextInt(10) + chance.nextInt(10) + chance.nextInt(10);
        }
        StringBuilder text = new StringBuilder().append("gat".charAt(chance.nextInt(3))).append('(');
        int nodes = 1 + chance.nextInt(4);
        for (int k = 0; k < nodes; k++) {
            text.append(k == 0 ? "" : ",").append(node(depth - 1));
        }
        return text.append(')').toString();
    }

    private static int[] arguments(int which) {
        switch (which) {
            case 0: return new int[] {some(0, 3), some(0, 3) * chance.nextInt(2), some(0, mostOffer), some(0, 1), time()};
            case 1: return new int[] {some(0, 3), some(0, 3), some(0, 3), time()};
            case 2: return new int[] {some(0, Math.max(0, y.count(0) - 1)), time()};
            case 3: return new int[] {chance.nextInt(2) == 0 ? 999 : some(0, Math.min(999, clock + 3))};
            case 4: return new int[] {people(), some(0, 3), some(0, 2)};
            case 5: return new int[] {people(), some(0, 3), some(0, 1)};
            case 6: return new int[] {people(), some(0, 3), some(0, 10), some(0, 1)};
            case 7: return new int[] {people(), some(0, 2), some(0, 1)};
            case 8: return new int[] {some(0, 3), some(0, 2047)};
            case 9: return new int[] {some(0, 11), some(0, 2)};
            case 10: return new int[] {people(), some(0, 10), some(0, 1)};
            case 11: return new int[] {people()};
            case 12: return new int[] {some(0, 3)};
            case 13: return new int[] {some(0, 7), some(0, 10), some(0, 10)};
            case 14: return new int[] {some(0, 7)};
            case 15: return new int[] {some(0, 7), some(0, 1), some(0, 1)};
            case 16: return new int[] {letter()};
            case 19: return new int[] {some(0, 40), some(0, 5)};
            case 20: return new int[] {some(0, 40), some(0, 4)};
            case 22: return new int[] {some(0, 3), some(0, 3)};
            case 23: return new int[] {some(0, mostNumber), some(0, mostNumber), some(0, mostNumber), some(0, mostNumber)};
            case 24: return new int[] {some(0, 5)};
            case 26: return new int[] {some(0, 2), some(0, 2), some(1, 15)};
            case 27: return new int[] {people(), some(0, 2), some(0, 1)};
            case 28: return new int[] {some(0, 10), some(0, 1)};
            case 30: return new int[] {some(0, 4), some(0, 4)};
            case 31: return new int[] {some(0, 4)};
            case 32: return new int[] {some(0, 3), some(0, 2) * chance.nextInt(2), some(-1, 48)};
            case 33: return new int[] {some(0, 3)};
            case 34: return new int[] {some(0, 3), some(0, 2) * chance.nextInt(2), some(0, 20),
                chance.nextInt(4) == 0 ? chance.nextInt() : some(0, 10)};
            case 35: return new int[] {some(0, 3), some(0, 2) * chance.nextInt(2), some(0, 20)};
            case 36: return new int[] {some(0, 3), some(0, 10), some(0, 3), some(0, 10), some(0, 10)};
            case 37: return new int[] {people(), some(0, 3), some(0, 3)};
            case 38: return new int[] {some(0, 8)};
            default: return new int[0];
        }
    }

    private static long ask(int which, int[] a, boolean program) {
        if (which == 17 && program) {
            pending = game();
        }
        switch (which) {
            case 0: return program ? x.pair(a[0], a[1], a[2], a[3], a[4]) : y.pair(a[0], a[1], a[2], a[3], a[4]);
            case 1: return program ? x.read(a[0], a[1], a[2], a[3]) : y.read(a[0], a[1], a[2], a[3]);
            case 2: return program ? x.takeBack(a[0], a[1]) : y.takeBack(a[0], a[1]);
            case 3: return program ? x.asOf(a[0]) : y.asOf(a[0]);
            case 4: return program ? x.many(a[0], a[1], a[2]) : y.many(a[0], a[1], a[2]);
            case 5: return program ? x.mean(a[0], a[1], a[2]) : y.mean(a[0], a[1], a[2]);
            case 6: return program ? x.refused(a[0], a[1], a[2], a[3]) : y.refused(a[0], a[1], a[2], a[3]);
            case 7: return program ? x.moves(a[0], a[1], a[2]) : y.moves(a[0], a[1], a[2]);
            case 8: return program ? x.row(a[0], a[1]) : y.row(a[0], a[1]);
            case 9: return program ? x.line(a[0], a[1]) : y.line(a[0], a[1]);
            case 10: return program ? x.taken(a[0], a[1], a[2]) : y.taken(a[0], a[1], a[2]);
            case 11: return program ? x.best(a[0]) : y.best(a[0]);
            case 12: return program ? x.belief(a[0]) : y.belief(a[0]);
            case 13: return program ? x.believe(a[0], a[1], a[2]) : y.believe(a[0], a[1], a[2]);
            case 14: return program ? x.hisBest(a[0]) : y.hisBest(a[0]);
            case 15: return program ? x.off(a[0], a[1], a[2]) : y.off(a[0], a[1], a[2]);
            case 16: return program ? x.type(a[0]) : y.type(a[0]);
            case 17: return program ? x.wipe() : y.wipe();
            case 18: return program ? x.fault() : y.fault();
            case 19: return program ? x.reckon(a[0], a[1]) : y.reckon(a[0], a[1]);
            default: return askMore(which, a, program);
        }
    }

    private static long askMore(int which, int[] a, boolean program) {
        switch (which) {
            case 20: return program ? x.how(a[0], a[1]) : y.how(a[0], a[1]);
            case 21: return program ? x.temper() : y.temper();
            case 22: return program ? x.two(a[0], a[1]) : y.two(a[0], a[1]);
            case 23: return program ? x.thing(a[0], a[1], a[2], a[3]) : y.thing(a[0], a[1], a[2], a[3]);
            case 24: return program ? x.goes(a[0]) : y.goes(a[0]);
            case 25: return program ? x.looked() : y.looked();
            case 26: return program ? x.story(a[0], a[1], a[2]) : y.story(a[0], a[1], a[2]);
            case 27: return program ? x.odds(a[0], a[1], a[2]) : y.odds(a[0], a[1], a[2]);
            case 28: return program ? x.round(a[0], a[1]) : y.round(a[0], a[1]);
            case 29: return program ? x.forget() : y.forget();
            case 30: return program ? x.misses(a[0], a[1]) : y.misses(a[0], a[1]);
            case 31: return program ? x.learnt(a[0]) : y.learnt(a[0]);
            case 32: return program ? x.sheet(a[0], a[1], a[2]) : y.sheet(a[0], a[1], a[2]);
            case 33: return program ? x.lose(a[0]) : y.lose(a[0]);
            case 34: return program ? x.put(a[0], a[1], a[2], a[3]) : y.put(a[0], a[1], a[2], a[3]);
            case 35: return program ? x.get(a[0], a[1], a[2]) : y.get(a[0], a[1], a[2]);
            case 36: return program ? x.copy(a[0], a[1], a[2], a[3], a[4]) : y.copy(a[0], a[1], a[2], a[3], a[4]);
            case 37: return program ? x.write(a[0], a[1], a[2]) : y.write(a[0], a[1], a[2]);
            case 38: return program ? x.count(a[0]) : y.count(a[0]);
            default: return program ? x.digest() : y.digest();
        }
    }
}
