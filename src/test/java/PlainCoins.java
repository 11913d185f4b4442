import java.math.BigInteger;
import java.util.ArrayList;
import java.util.Arrays;
import java.util.List;

/** The document once more, by the slowest and plainest means, to hold the program against. */
final class PlainCoins {
    private static final int LEAST = Integer.MIN_VALUE;

    private record Told(int people, int kind, int offer, int answer, int time) { }

    private record Node(int player, List<Node> nodes, int[] gets) { }

    private static final class Broken extends Exception {
        private static final long serialVersionUID = 1;
        private final int place;

        Broken(int place) {
            this.place = place;
        }
    }

    private final List<Told> pairs = new ArrayList<>();
    private final List<Integer> backs = new ArrayList<>();
    private final List<int[]> rows = new ArrayList<>();
    private final List<int[]> beliefs = new ArrayList<>();
    private final List<int[]> things = new ArrayList<>();
    private final List<int[]> rounds = new ArrayList<>();
    private final int[][] stories = {{8, 8, 8}, {8, 8, 8}, {8, 8, 8}};
    private final Object[] sheets = new Object[4];
    private String game = "";
    private int last = 0;
    private int asOf = 999;
    private int finding = 0;

    private static boolean out(int v, int from, int to) {
        return v < from || v > to;
    }

    private static long longOf(int refusal) {
        return Long.MIN_VALUE + -refusal;
    }

    private int find(int number) {
        finding = number;
        return -10 - number;
    }

    private static BigInteger big(long v) {
        return BigInteger.valueOf(v);
    }

    private static long part(BigInteger above, BigInteger below, int what) {
        BigInteger g = above.gcd(below);
        return (what == 0 ? above : below).divide(g).longValueExact();
    }

    // ---- pairs

    int pair(int people, int kind, int offer, int answer, int time) {
        if (out(people, 0, 3) || out(kind, 0, 3) || out(offer, 0, 10) || out(answer, kind == 1 ? 1 : 0, 1)
            || out(time, last, 999)) {
            return -2;
        }
        if (pairs.size() == 60) {
            return -4;
        }
        last = time;
        pairs.add(new Told(people, kind, offer, answer, time));
        backs.add(null);
        return pairs.size() - 1;
    }

    int read(int s, int people, int kind, int time) {
        if (out(s, 0, 3) || out(people, 0, 3) || out(kind, 0, 3) || out(time, last, 999)) {
            return -2;
        }
        if (sheets[s] == null) {
            return find(1);
        }
        int took = 0;
        for (int i = 0; i + 1 < sizeOf(s); i += 2) {
            if (pair(people, kind, item(s, i), item(s, i + 1), time) < 0) {
                break;
            }
            took++;
        }
        return took;
    }

    int takeBack(int pair, int time) {
        if (out(pair, 0, pairs.size() - 1) || out(time, last, 999)) {
            return -2;
        }
        if (backs.get(pair) != null) {
            return -3;
        }
        backs.set(pair, time);
        last = time;
        return 1;
    }

    int asOf(int time) {
        if (out(time, 0, 999)) {
            return -2;
        }
        int was = asOf;
        asOf = time;
        return was;
    }

    private List<Told> counting() {
        List<Told> found = new ArrayList<>();
        for (int k = 0; k < pairs.size(); k++) {
            boolean back = backs.get(k) != null && backs.get(k) <= asOf;
            if (pairs.get(k).time <= asOf && !back) {
                found.add(pairs.get(k));
            }
        }
        return found;
    }

    private List<Told> of(int people, int kind) {
        return counting().stream().filter(p -> p.kind == kind && (people == -1 || p.people == people)).toList();
    }

    private static int noes(List<Told> told) {
        return (int) told.stream().filter(p -> p.answer == 0).count();
    }

    private static int sum(List<Told> told) {
        return told.stream().mapToInt(Told::offer).sum();
    }

    int many(int people, int kind, int what) {
        if (out(people, -1, 3) || out(kind, 0, 3) || out(what, 0, 2)) {
            return -2;
        }
        List<Told> told = of(people, kind);
        if (what < 2) {
            return what == 0 ? told.size() : noes(told);
        }
        int[] offers = told.stream().mapToInt(Told::offer).sorted().toArray();
        return offers.length == 0 ? -3 : offers[(offers.length - 1) / 2];
    }

    long mean(int people, int kind, int what) {
        if (out(people, -1, 3) || out(kind, 0, 3) || out(what, 0, 1)) {
            return longOf(-2);
        }
        List<Told> told = of(people, kind);
        return told.isEmpty() ? longOf(-3) : part(big(sum(told)), big(told.size()), what);
    }

    long refused(int people, int kind, int offer, int what) {
        if (out(people, -1, 3) || out(kind, 0, 3) || out(offer, 0, 10) || out(what, 0, 1)) {
            return longOf(-2);
        }
        List<Told> told = of(people, kind).stream().filter(p -> p.offer == offer).toList();
        return told.isEmpty() ? longOf(-3) : part(big(noes(told)), big(told.size()), what);
    }

    long moves(int people, int which, int what) {
        if (out(people, -1, 3) || out(which, 0, 2) || out(what, 0, 1)) {
            return longOf(-2);
        }
        List<Told> from = of(people, which == 1 ? 3 : 0);
        List<Told> less = of(people, which == 0 ? 1 : which == 1 ? 0 : 2);
        if (from.isEmpty() || less.isEmpty()) {
            return longOf(-3);
        }
        BigInteger a = big(which == 2 ? noes(from) : sum(from));
        BigInteger b = big(which == 2 ? noes(less) : sum(less));
        BigInteger above = a.multiply(big(less.size())).subtract(b.multiply(big(from.size())));
        return part(above, big((long) from.size() * less.size()), what);
    }

    // ---- rows, beliefs

    int row(int people, int bits) {
        if (out(people, 0, 3) || out(bits, 0, 2047)) {
            return -2;
        }
        if (rows.size() == 12) {
            return -4;
        }
        rows.add(new int[] {people, bits});
        return rows.size() - 1;
    }

    int line(int row, int what) {
        if (out(row, 0, rows.size() - 1) || out(what, 0, 2)) {
            return -2;
        }
        int[] found = null;
        for (int from = 0; from <= 10; from++) {
            for (int to = from; to <= 10; to++) {
                int turned = 0;
                for (int offer = 0; offer <= 10; offer++) {
                    boolean yes = (rows.get(row)[1] & 1 << offer) != 0;
                    turned += yes == (offer >= from && offer <= to) ? 0 : 1;
                }
                int[] mended = {turned, from, -to};
                if (found == null || Arrays.compare(mended, found) < 0) {
                    found = mended;
                }
            }
        }
        return Math.abs(found[what]);
    }

    private List<int[]> rowsOf(int people) {
        return rows.stream().filter(r -> people == -1 || r[0] == people).toList();
    }

    private int yeses(int people, int offer) {
        return (int) rowsOf(people).stream().filter(r -> (r[1] & 1 << offer) != 0).count();
    }

    long taken(int people, int offer, int what) {
        if (out(people, -1, 3) || out(offer, 0, 10) || out(what, 0, 1)) {
            return longOf(-2);
        }
        int all = rowsOf(people).size();
        return all == 0 ? longOf(-3) : part(big(yeses(people, offer)), big(all), what);
    }

    int best(int people) {
        if (out(people, -1, 3)) {
            return -2;
        }
        if (rowsOf(people).isEmpty()) {
            return -3;
        }
        int best = 10;
        for (int offer = 9; offer >= 0; offer--) {
            if ((10 - offer) * yeses(people, offer) >= (10 - best) * yeses(people, best)) {
                best = offer;
            }
        }
        return best;
    }

    int belief(int people) {
        if (out(people, 0, 3)) {
            return -2;
        }
        if (beliefs.size() == 8) {
            return -4;
        }
        int[] belief = new int[12];
        belief[11] = people;
        beliefs.add(belief);
        return beliefs.size() - 1;
    }

    int believe(int belief, int offer, int v) {
        if (out(belief, 0, beliefs.size() - 1) || out(offer, 0, 10) || out(v, 0, 10)) {
            return -2;
        }
        int was = beliefs.get(belief)[offer];
        beliefs.get(belief)[offer] = v;
        return was;
    }

    int hisBest(int belief) {
        if (out(belief, 0, beliefs.size() - 1)) {
            return -2;
        }
        int[] b = beliefs.get(belief);
        int best = 10;
        for (int offer = 9; offer >= 0; offer--) {
            if ((10 - offer) * b[offer] >= (10 - best) * b[best]) {
                best = offer;
            }
        }
        return best;
    }

    long off(int belief, int which, int what) {
        if (out(belief, 0, beliefs.size() - 1) || out(which, 0, 1) || out(what, 0, 1)) {
            return longOf(-2);
        }
        int people = beliefs.get(belief)[11];
        int all = rowsOf(people).size();
        if (all == 0) {
            return longOf(-3);
        }
        if (which == 1) {
            int best = best(people);
            int his = hisBest(belief);
            return part(big((10 - best) * yeses(people, best) - (10 - his) * yeses(people, his)), big(all), what);
        }
        BigInteger above = BigInteger.ZERO;
        BigInteger below = BigInteger.ONE;
        for (int offer = 0; offer <= 10; offer++) {
            BigInteger differ = big(beliefs.get(belief)[offer]).multiply(big(all)).subtract(big(10L * yeses(people, offer)));
            above = above.multiply(big(10L * all)).add(differ.abs().multiply(below));
            below = below.multiply(big(10L * all));
        }
        return part(above, below, what);
    }

    // ---- games

    int type(int b) {
        if (out(b, 0, 255)) {
            return -2;
        }
        if (game.length() == 60) {
            return -4;
        }
        game += (char) b;
        return game.length();
    }

    int wipe() {
        int had = game.length();
        game = "";
        return had;
    }

    private int at;

    private char next() throws Broken {
        if (at >= game.length()) {
            throw new Broken(game.length());
        }
        return game.charAt(at);
    }

    private void want(char sign) throws Broken {
        if (next() != sign) {
            throw new Broken(at);
        }
        at++;
    }

    private Node node() throws Broken {
        int player = "gat".indexOf(next());
        if (player < 0) {
            int[] gets = new int[3];
            for (int k = 0; k < 3; k++) {
                if (out(next(), '0', '9')) {
                    throw new Broken(at);
                }
                gets[k] = game.charAt(at++) - '0';
            }
            return new Node(-1, List.of(), gets);
        }
        at++;
        want('(');
        List<Node> nodes = new ArrayList<>();
        nodes.add(node());
        while (nodes.size() < 4 && next() == ',') {
            at++;
            nodes.add(node());
        }
        want(')');
        return new Node(player, nodes, null);
    }

    private Node parsed() throws Broken {
        at = 0;
        Node node = node();
        if (at != game.length()) {
            throw new Broken(at);
        }
        return node;
    }

    private Node root() {
        try {
            return parsed();
        } catch (Broken b) {
            return null;
        }
    }

    int fault() {
        try {
            parsed();
            return -1;
        } catch (Broken b) {
            return b.place;
        }
    }

    private static int worth(Node end, int player, int anger) {
        int own = end.gets[player];
        int most = Math.max(end.gets[(player + 1) % 3], end.gets[(player + 2) % 3]);
        return 4 * own - anger * Math.max(0, most - own);
    }

    private static Node reckoned(Node node, int anger, List<Integer> way) {
        if (node.player < 0) {
            return node;
        }
        Node found = null;
        List<Integer> foundWay = null;
        for (int k = 0; k < node.nodes.size(); k++) {
            List<Integer> itsWay = new ArrayList<>();
            itsWay.add(k);
            Node end = reckoned(node.nodes.get(k), anger, itsWay);
            if (found == null || worth(end, node.player, anger) > worth(found, node.player, anger)) {
                found = end;
                foundWay = itsWay;
            }
        }
        way.addAll(foundWay);
        return found;
    }

    private static int ends(Node node) {
        return node.player < 0 ? 1 : node.nodes.stream().mapToInt(PlainCoins::ends).sum();
    }

    private static int letters(Node node) {
        return node.player < 0 ? 0 : 1 + node.nodes.stream().mapToInt(PlainCoins::letters).sum();
    }

    int reckon(int anger, int what) {
        if (out(anger, 0, 40) || out(what, 0, 5)) {
            return -2;
        }
        Node root = root();
        if (root == null) {
            return -3;
        }
        List<Integer> way = new ArrayList<>();
        Node end = reckoned(root, anger, way);
        return what < 3 ? end.gets[what] : what == 3 ? way.size() : what == 4 ? ends(root) : letters(root);
    }

    int how(int anger, int i) {
        if (out(anger, 0, 40) || i < 0) {
            return -2;
        }
        Node root = root();
        if (root == null) {
            return -3;
        }
        List<Integer> way = new ArrayList<>();
        reckoned(root, anger, way);
        return i < way.size() ? way.get(i) : -1;
    }

    int temper() {
        Node root = root();
        if (root == null) {
            return -3;
        }
        Node calm = reckoned(root, 0, new ArrayList<>());
        for (int anger = 0; anger <= 40; anger++) {
            if (reckoned(root, anger, new ArrayList<>()) != calm) {
                return anger;
            }
        }
        return -1;
    }

    // ---- peoples, things, stories

    int two(int a, int b) {
        if (out(a, 0, 3) || out(b, 0, 3) || a == b) {
            return -2;
        }
        List<Told> as = of(a, 0);
        List<Told> all = new ArrayList<>(as);
        all.addAll(of(b, 0));
        if (as.isEmpty() || as.size() == all.size()) {
            return -3;
        }
        if (all.size() > 14) {
            return -4;
        }
        int observed = apart(all, as.size(), (1 << as.size()) - 1);
        long choices = 0;
        long asFar = 0;
        for (int mask = 0; mask < 1 << all.size(); mask++) {
            if (Integer.bitCount(mask) == as.size()) {
                choices++;
                asFar += apart(all, as.size(), mask) >= observed ? 1 : 0;
            }
        }
        return (int) (asFar * 1000000 / choices);
    }

    private static int apart(List<Told> all, int chosen, int mask) {
        int in = 0;
        int outside = 0;
        for (int k = 0; k < all.size(); k++) {
            if ((mask >> k & 1) == 1) {
                in += all.get(k).offer;
            } else {
                outside += all.get(k).offer;
            }
        }
        return Math.abs(in * (all.size() - chosen) - outside * chosen);
    }

    int thing(int a, int b, int c, int d) {
        if (out(a, 0, 99) || out(b, 0, 99) || out(c, 0, 99) || out(d, 0, 99)) {
            return -2;
        }
        if (things.size() == 6) {
            return -4;
        }
        things.add(new int[] {a, b, c, d});
        return things.size() - 1;
    }

    /** Sums and sizes of those peoples that have a mean. */
    private List<int[]> means(List<Integer> whose) {
        List<int[]> means = new ArrayList<>();
        for (int people = 0; people < 4; people++) {
            List<Told> told = of(people, 0);
            if (!told.isEmpty()) {
                whose.add(people);
                means.add(new int[] {sum(told), told.size()});
            }
        }
        return means;
    }

    private static int goes(int[] thing, List<Integer> whose, List<int[]> means) {
        int goes = 0;
        for (int i = 0; i < whose.size(); i++) {
            for (int j = i + 1; j < whose.size(); j++) {
                int m = Integer.compare(means.get(i)[0] * means.get(j)[1], means.get(j)[0] * means.get(i)[1]);
                int n = Integer.compare(thing[whose.get(i)], thing[whose.get(j)]);
                goes += m * n;
            }
        }
        return goes;
    }

    int goes(int thing) {
        if (out(thing, 0, things.size() - 1)) {
            return -99;
        }
        List<Integer> whose = new ArrayList<>();
        List<int[]> means = means(whose);
        return goes(things.get(thing), whose, means);
    }

    private int greatest(List<Integer> whose, List<int[]> means) {
        return things.stream().mapToInt(t -> Math.abs(goes(t, whose, means))).max().getAsInt();
    }

    private static void orders(List<int[]> left, List<int[]> done, List<List<int[]>> into) {
        if (left.isEmpty()) {
            into.add(done);
        }
        for (int k = 0; k < left.size(); k++) {
            List<int[]> rest = new ArrayList<>(left);
            List<int[]> more = new ArrayList<>(done);
            more.add(rest.remove(k));
            orders(rest, more, into);
        }
    }

    int looked() {
        List<Integer> whose = new ArrayList<>();
        List<int[]> means = means(whose);
        if (things.isEmpty() || means.size() < 2) {
            return -3;
        }
        List<List<int[]>> orders = new ArrayList<>();
        orders(means, new ArrayList<>(), orders);
        int found = greatest(whose, means);
        long asGreat = orders.stream().filter(o -> greatest(whose, o) >= found).count();
        return (int) (asGreat * 1000000 / orders.size());
    }

    int story(int story, int span, int v) {
        if (out(story, 0, 2) || out(span, 0, 2) || out(v, 1, 15)) {
            return -2;
        }
        int was = stories[story][span];
        stories[story][span] = v;
        return was;
    }

    long odds(int people, int story, int what) {
        if (out(people, -1, 3) || out(story, 0, 2) || out(what, 0, 1)) {
            return longOf(-2);
        }
        List<Told> told = of(people, 0);
        if (told.size() > 14) {
            return longOf(-4);
        }
        BigInteger all = BigInteger.ZERO;
        BigInteger its = null;
        for (int s = 0; s < 3; s++) {
            BigInteger likely = BigInteger.ONE;
            for (Told p : told) {
                int no = stories[s][p.offer < 4 ? 0 : p.offer < 7 ? 1 : 2];
                likely = likely.multiply(big(p.answer == 0 ? no : 16 - no));
            }
            all = all.add(likely);
            its = s == story ? likely : its;
        }
        return part(its, all, what);
    }

    // ---- rounds

    int round(int offer, int answer) {
        if (out(offer, 0, 10) || out(answer, 0, 1)) {
            return -2;
        }
        if (rounds.size() == 24) {
            return -4;
        }
        rounds.add(new int[] {offer, answer});
        return rounds.size();
    }

    int forget() {
        int were = rounds.size();
        rounds.clear();
        return were;
    }

    int misses(int u, int d) {
        if (out(u, 0, 4) || out(d, 0, 4)) {
            return -2;
        }
        int missed = 0;
        for (int k = 0; k + 1 < rounds.size(); k++) {
            int due = rounds.get(k)[1] == 0 ? rounds.get(k)[0] + u : rounds.get(k)[0] - d;
            due = due > 10 ? 10 : due < 0 ? 0 : due;
            missed += Math.abs(due - rounds.get(k + 1)[0]);
        }
        return missed;
    }

    int learnt(int what) {
        if (out(what, 0, 4)) {
            return -2;
        }
        if (what == 3) {
            return rounds.stream().filter(r -> r[1] == 1).mapToInt(r -> 10 - r[0]).sum();
        }
        if (what == 4) {
            int could = 0;
            for (int offer = 0; offer <= 10; offer++) {
                int brings = 0;
                for (int[] r : rounds) {
                    brings += r[1] == 1 && offer >= r[0] ? 10 - offer : 0;
                }
                could = Math.max(could, brings);
            }
            return could;
        }
        if (rounds.size() < 2) {
            return -3;
        }
        int[] law = null;
        for (int u = 4; u >= 0; u--) {
            for (int d = 4; d >= 0; d--) {
                int[] other = {misses(u, d), u, d};
                if (law == null || Arrays.compare(other, law) < 0) {
                    law = other;
                }
            }
        }
        return law[(what + 1) % 3];
    }

    // ---- sheets

    private int sizeOf(int s) {
        return java.lang.reflect.Array.getLength(sheets[s]);
    }

    private int item(int s, int i) {
        return java.lang.reflect.Array.getInt(sheets[s], i);
    }

    private int formOf(int s) {
        return sheets[s] instanceof byte[] ? 0 : sheets[s] instanceof short[] ? 1 : 2;
    }

    private void set(int s, int i, int v) {
        if (sheets[s] instanceof byte[] b) {
            b[i] = (byte) v;
        } else if (sheets[s] instanceof short[] h) {
            h[i] = (short) v;
        } else {
            ((int[]) sheets[s])[i] = v;
        }
    }

    int sheet(int s, int form, int n) {
        if (out(s, 0, 3) || out(form, 0, 2) || n > 48) {
            return -2;
        }
        if (n < 0) {
            return find(5);
        }
        sheets[s] = form == 0 ? new byte[n] : form == 1 ? new short[n] : new int[n];
        return n;
    }

    int lose(int s) {
        if (out(s, 0, 3)) {
            return -2;
        }
        if (sheets[s] == null) {
            return find(1);
        }
        int n = sizeOf(s);
        sheets[s] = null;
        return n;
    }

    private int use(int s, int form, int i) {
        if (sheets[s] == null) {
            return 1;
        }
        if (formOf(s) != form) {
            return 3;
        }
        return out(i, 0, sizeOf(s) - 1) ? 2 : 0;
    }

    int put(int s, int form, int i, int v) {
        if (out(s, 0, 3) || out(form, 0, 2)) {
            return -2;
        }
        int use = use(s, form, i);
        if (use != 0) {
            return find(use);
        }
        set(s, i, v);
        return 1;
    }

    int get(int s, int form, int i) {
        if (out(s, 0, 3) || out(form, 0, 2)) {
            return LEAST;
        }
        int use = use(s, form, i);
        if (use != 0) {
            find(use);
            return LEAST;
        }
        return item(s, i);
    }

    int copy(int s, int i, int t, int j, int n) {
        if (out(s, 0, 3) || out(t, 0, 3)) {
            return -2;
        }
        if (sheets[s] == null || sheets[t] == null) {
            return find(1);
        }
        if (formOf(s) != formOf(t)) {
            return find(4);
        }
        if (i < 0 || j < 0 || n < 0 || (long) i + n > sizeOf(s) || (long) j + n > sizeOf(t)) {
            return find(2);
        }
        int[] were = new int[n];
        for (int k = 0; k < n; k++) {
            were[k] = item(s, i + k);
        }
        for (int k = 0; k < n; k++) {
            set(t, j + k, were[k]);
        }
        return 1;
    }

    int write(int people, int kind, int s) {
        if (out(people, -1, 3) || out(kind, 0, 3) || out(s, 0, 3)) {
            return -2;
        }
        if (sheets[s] == null) {
            return find(1);
        }
        List<Told> told = of(people, kind);
        int n = Math.min(told.size(), sizeOf(s));
        for (int k = 0; k < n; k++) {
            set(s, k, told.get(k).offer);
        }
        return n;
    }

    int count(int what) {
        int[] counts = {pairs.size(), counting().size(), rows.size(), beliefs.size(), game.length(), things.size(),
            rounds.size(), asOf, finding};
        return out(what, 0, 8) ? -2 : counts[what];
    }

    long digest() {
        List<Long> told = new ArrayList<>();
        for (int what = 0; what < 8; what++) {
            told.add((long) count(what));
        }
        told.add((long) fault());
        for (int people = -1; people < 4; people++) {
            for (int k = 0; k < 8; k++) {
                told.add((long) many(people, k / 2, k % 2));
            }
        }
        told.add(mean(-1, 0, 0));
        told.add(mean(-1, 0, 1));
        told.add((long) best(-1));
        for (int k = 0; k < 3 * rows.size(); k++) {
            told.add((long) line(k / 3, k % 3));
        }
        for (int k = 0; k < beliefs.size(); k++) {
            told.add((long) hisBest(k));
        }
        for (int k = 0; k < 9; k++) {
            told.add((long) (k < 6 ? reckon(0, k) : reckon(4, k - 6)));
        }
        told.add((long) temper());
        for (int k = 0; k < things.size(); k++) {
            told.add((long) goes(k));
        }
        told.add((long) looked());
        for (int k = 0; k < 5; k++) {
            told.add((long) learnt(k));
        }
        long h = 17;
        for (long value : told) {
            h = 31 * h + value;
        }
        return h;
    }
}
