/** Promises 1 to 9. */
public final class PairsTest {
    private static final int MIN = Integer.MIN_VALUE, MAX = Integer.MAX_VALUE;
    private static final Due d = new Due();

    public static void main(String[] args) {
        newObject();
        pair();
        read();
        takeBack();
        asOf();
        many();
        mean();
        refused();
        moves();
        d.done();
    }

    private static void newObject() {
        TenCoins x = new TenCoins();
        int[] counts = {0, 0, 0, 0, 0, 0, 0, 999, 0};
        for (int what = 0; what < counts.length; what++) {
            d.due("1: count " + what, x.count(what), counts[what]);
        }
        for (int s = 0; s < 4; s++) {
            d.due("1: lose " + s, x.lose(s), -11);
        }
        for (int story = 0; story < 3; story++) {
            for (int span = 0; span < 3; span++) {
                d.due("1: story " + story + " " + span, x.story(story, span, 1), 8);
            }
        }
    }

    private static void pair() {
        TenCoins x = new TenCoins();
        int[][] bad = {{-1, 0, 5, 1, 0}, {4, 0, 5, 1, 0}, {0, -1, 5, 1, 0}, {0, 4, 5, 1, 0}, {0, 0, -1, 1, 0},
            {0, 0, 11, 1, 0}, {0, 0, 5, -1, 0}, {0, 0, 5, 2, 0}, {0, 0, 5, 1, -1}, {0, 0, 5, 1, 1000},
            {0, 1, 5, 0, 0}, {MIN, MIN, MIN, MIN, MIN}, {MAX, MAX, MAX, MAX, MAX}};
        for (int[] b : bad) {
            d.due("2: wrong pair", x.pair(b[0], b[1], b[2], b[3], b[4]), -2);
        }
        d.due("2: nothing told", x.count(0), 0);
        d.due("2: first", x.pair(3, 3, 10, 0, 5), 0);
        d.due("2: earlier", x.pair(0, 0, 5, 1, 4), -2);
        d.due("2: same time", x.pair(0, 1, 0, 1, 5), 1);
        d.due("2: box", x.pair(0, 2, 0, 0, 999), 2);
        d.due("2: 998", x.pair(0, 0, 0, 0, 998), -2);
        for (int k = 3; k < 60; k++) {
            d.due("2: number", x.pair(0, 0, k % 11, 1, 999), k);
        }
        d.due("2: full", x.pair(0, 0, 1, 1, 999), -4);
        d.due("2: bad ahead of full", x.pair(0, 0, 11, 1, 999), -2);
        d.due("2: earlier ahead of full", x.pair(0, 0, 1, 1, 998), -2);
        d.due("2: sixty", x.count(0), 60);
        d.due("40: sixty count", x.count(1), 60);
        d.due("6: of sixty", x.many(0, 0, 0), 57);
        x.sheet(0, 0, 48);
        d.due("39: the last of sixty", x.write(0, 1, 0), 1);
    }

    private static void read() {
        TenCoins x = new TenCoins();
        d.due("3: lost", x.read(0, 0, 0, 0), -11);
        d.due("3: null noted", x.count(8), 1);
        x.sheet(0, 2, 5);
        fill(x, 0, 2, 10, 0, 3, 1, 7);
        int[][] bad = {{-1, 0, 0, 0}, {4, 0, 0, 0}, {0, -1, 0, 0}, {0, 4, 0, 0}, {0, 0, -1, 0}, {0, 0, 4, 0},
            {0, 0, 0, -1}, {0, 0, 0, 1000}, {1, 4, 0, 0}};
        for (int[] b : bad) {
            d.due("3: wrong read", x.read(b[0], b[1], b[2], b[3]), -2);
        }
        d.due("3: odd item left", x.read(0, 2, 3, 7), 2);
        d.due("3: told", x.many(2, 3, 0), 2);
        d.due("3: no", x.many(2, 3, 1), 1);
        d.due("3: earlier", x.read(0, 2, 3, 6), -2);
        d.due("3: earlier, of pair", x.pair(0, 0, 0, 1, 6), -2);
        d.due("3: earlier ahead of lost", x.read(1, 2, 3, 6), -2);
        d.due("3: kind 1 stops at its no", x.read(0, 2, 1, 7), 0);
        x.sheet(1, 0, 6);
        fill(x, 1, 0, 4, 1, -1, 1, 5, 1);
        d.due("3: stops at a wrong offer", x.read(1, 1, 0, 8), 1);
        d.due("3: what it took stays", x.count(0), 3);
        x.sheet(2, 1, 48);
        d.due("3: zeros are noes", x.read(2, 0, 0, 8), 24);
        d.due("3: noes", x.many(0, 0, 1), 24);
        d.due("3: more", x.read(2, 0, 0, 8), 24);
        d.due("3: up to full", x.read(2, 0, 0, 8), 9);
        d.due("3: full", x.read(2, 0, 0, 8), 0);
        d.due("3: sixty", x.count(0), 60);
        x.sheet(3, 0, 0);
        d.due("3: no items", x.read(3, 0, 0, 8), 0);
        TenCoins y = new TenCoins();
        y.sheet(0, 0, 1);
        d.due("3: half a pair", y.read(0, 0, 0, 500), 0);
        d.due("3: none taken tells no time", y.pair(0, 0, 5, 1, 3), 0);
    }

    private static void fill(TenCoins x, int s, int form, int... items) {
        for (int i = 0; i < items.length; i++) {
            x.put(s, form, i, items[i]);
        }
    }

    private static void takeBack() {
        TenCoins x = new TenCoins();
        d.due("4: none", x.takeBack(0, 0), -2);
        x.pair(0, 0, 5, 1, 10);
        x.pair(0, 0, 7, 0, 10);
        d.due("4: below", x.takeBack(-1, 10), -2);
        d.due("4: beyond", x.takeBack(2, 10), -2);
        d.due("4: earlier", x.takeBack(0, 9), -2);
        d.due("4: late", x.takeBack(0, 1000), -2);
        d.due("4: back", x.takeBack(0, 20), 1);
        d.due("4: again", x.takeBack(0, 20), -3);
        d.due("4: earlier ahead of again", x.takeBack(0, 19), -2);
        d.due("4: its time binds pairs", x.pair(0, 0, 5, 1, 19), -2);
        d.due("4: numbers stay", x.pair(0, 0, 5, 1, 20), 2);
        d.due("4: PAIRS", x.count(0), 3);
        d.due("4: COUNT", x.count(1), 2);
        d.due("4: middle", x.many(0, 0, 2), 5);
        x.asOf(19);
        d.due("4: not yet back", x.count(1), 2);
        d.due("4: sum then", x.mean(0, 0, 0), 6);
        d.due("4: again, as of earlier", x.takeBack(0, 30), -3);
        d.due("4: a refused one tells no time", x.pair(0, 0, 5, 1, 20), 3);
    }

    private static void asOf() {
        TenCoins x = new TenCoins();
        d.due("5: below", x.asOf(-1), -2);
        d.due("5: above", x.asOf(1000), -2);
        d.due("5: first", x.asOf(0), 999);
        d.due("5: second", x.asOf(500), 0);
        d.due("5: count", x.count(7), 500);
        x.pair(0, 0, 1, 1, 499);
        x.pair(0, 0, 2, 1, 500);
        x.pair(0, 0, 3, 1, 501);
        d.due("5: up to then", x.many(0, 0, 0), 2);
        x.takeBack(0, 501);
        d.due("5: told later", x.many(0, 0, 0), 2);
        x.asOf(501);
        d.due("5: back at that time", x.many(0, 0, 0), 2);
        d.due("5: those are", x.mean(0, 0, 0), 5);
        x.asOf(498);
        d.due("5: ahead of all", x.count(1), 0);
        d.due("5: binds no telling", x.pair(0, 0, 4, 1, 501), 3);
    }

    private static TenCoins some() {
        TenCoins x = new TenCoins();
        x.pair(0, 0, 9, 1, 0);
        x.pair(0, 0, 1, 0, 0);
        x.pair(0, 0, 2, 0, 0);
        x.pair(0, 0, 2, 1, 0);
        x.pair(1, 0, 0, 0, 0);
        x.pair(1, 1, 3, 1, 0);
        x.pair(0, 1, 5, 1, 0);
        x.pair(0, 2, 2, 1, 0);
        x.pair(0, 3, 3, 0, 0);
        return x;
    }

    private static void many() {
        TenCoins x = some();
        int[][] bad = {{-2, 0, 0}, {4, 0, 0}, {0, -1, 0}, {0, 4, 0}, {0, 0, -1}, {0, 0, 3}, {2, 0, 3}};
        for (int[] b : bad) {
            d.due("6: wrong many", x.many(b[0], b[1], b[2]), -2);
        }
        d.due("6: many", x.many(0, 0, 0), 4);
        d.due("6: noes", x.many(0, 0, 1), 2);
        d.due("6: the lesser middle", x.many(0, 0, 2), 2);
        d.due("6: all", x.many(-1, 0, 0), 5);
        d.due("6: all noes", x.many(-1, 0, 1), 3);
        d.due("6: none", x.many(3, 0, 0), 0);
        d.due("6: none's noes", x.many(3, 0, 1), 0);
        d.due("6: none's middle", x.many(3, 0, 2), -3);
        d.due("6: of both", x.many(-1, 1, 2), 3);
        TenCoins y = new TenCoins();
        y.pair(0, 0, 10, 1, 0);
        d.due("6: of one", y.many(0, 0, 2), 10);
        y.pair(0, 0, 0, 1, 0);
        y.pair(0, 0, 4, 1, 0);
        d.due("6: of three", y.many(0, 0, 2), 4);
    }

    private static void mean() {
        TenCoins x = some();
        int[][] bad = {{-2, 0, 0}, {4, 0, 0}, {0, -1, 0}, {0, 4, 0}, {0, 0, -1}, {0, 0, 2}, {2, 0, 2}};
        for (int[] b : bad) {
            d.due("7: wrong mean", x.mean(b[0], b[1], b[2]), Due.BAD);
        }
        d.fraction("7: lowest terms", x.mean(0, 0, 0), x.mean(0, 0, 1), 7, 2);
        d.fraction("7: all", x.mean(-1, 0, 0), x.mean(-1, 0, 1), 14, 5);
        d.fraction("7: nothing", x.mean(1, 0, 0), x.mean(1, 0, 1), 0, 1);
        d.fraction("7: none", x.mean(2, 0, 0), x.mean(2, 0, 1), Due.NOT, Due.NOT);
    }

    private static void refused() {
        TenCoins x = some();
        int[][] bad = {{-2, 0, 0, 0}, {4, 0, 0, 0}, {0, -1, 0, 0}, {0, 4, 0, 0}, {0, 0, -1, 0}, {0, 0, 11, 0},
            {0, 0, 0, -1}, {0, 0, 0, 2}};
        for (int[] b : bad) {
            d.due("8: wrong refused", x.refused(b[0], b[1], b[2], b[3]), Due.BAD);
        }
        d.fraction("8: half", x.refused(0, 0, 2, 0), x.refused(0, 0, 2, 1), 1, 2);
        d.fraction("8: all", x.refused(-1, 0, 0, 0), x.refused(-1, 0, 0, 1), 1, 1);
        d.fraction("8: none", x.refused(0, 0, 9, 0), x.refused(0, 0, 9, 1), 0, 1);
        d.fraction("8: kind 1", x.refused(-1, 1, 3, 0), x.refused(-1, 1, 3, 1), 0, 1);
        d.due("8: nobody", x.refused(0, 0, 10, 0), Due.NOT);
        d.due("8: nobody there", x.refused(1, 0, 9, 0), Due.NOT);
    }

    private static void moves() {
        TenCoins x = some();
        int[][] bad = {{-2, 0, 0}, {4, 0, 0}, {0, -1, 0}, {0, 3, 0}, {0, 0, -1}, {0, 0, 2}, {2, 3, 0}};
        for (int[] b : bad) {
            d.due("9: wrong moves", x.moves(b[0], b[1], b[2]), Due.BAD);
        }
        d.fraction("9: fear", x.moves(0, 0, 0), x.moves(0, 0, 1), -3, 2);
        d.fraction("9: month", x.moves(0, 1, 0), x.moves(0, 1, 1), -1, 2);
        d.fraction("9: box", x.moves(0, 2, 0), x.moves(0, 2, 1), 1, 2);
        d.fraction("9: fear of one", x.moves(1, 0, 0), x.moves(1, 0, 1), -3, 1);
        d.due("9: no month", x.moves(1, 1, 0), Due.NOT);
        d.due("9: no box", x.moves(1, 2, 1), Due.NOT);
        d.due("9: none", x.moves(3, 0, 1), Due.NOT);
        d.fraction("9: of all", x.moves(-1, 0, 0), x.moves(-1, 0, 1), -6, 5);
        x.pair(0, 1, 2, 1, 0);
        d.fraction("9: nothing", x.moves(0, 0, 0), x.moves(0, 0, 1), 0, 1);
    }
}
