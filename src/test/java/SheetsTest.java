/** Promises 34 to 40. */
public final class SheetsTest {
    private static final int MIN = Integer.MIN_VALUE, MAX = Integer.MAX_VALUE;
    private static final Due d = new Due();

    public static void main(String[] args) {
        sheetAndLose();
        putAndGet();
        copy();
        write();
        count();
        d.done();
    }

    private static void sheetAndLose() {
        TenCoins x = new TenCoins();
        int[][] bad = {{-1, 0, 1}, {4, 0, 1}, {0, -1, 1}, {0, 3, 1}, {0, 0, 49}, {0, 3, -1}, {4, 0, -1}};
        for (int[] b : bad) {
            d.due("34: wrong sheet", x.sheet(b[0], b[1], b[2]), -2);
        }
        d.due("34: no finding", x.count(8), 0);
        d.due("34: size", x.sheet(0, 0, -1), -15);
        d.due("34: its number", x.count(8), 5);
        d.due("34: least", x.sheet(0, 0, MIN), -15);
        d.due("34: still lost", x.lose(0), -11);
        d.due("34: none", x.sheet(0, 0, 0), 0);
        d.due("34: most", x.sheet(3, 2, 48), 48);
        x.put(3, 2, 47, 77);
        d.due("34: size leaves it", x.sheet(3, 2, -5), -15);
        d.due("34: as it was", x.get(3, 2, 47), 77);
        d.due("34: anew", x.sheet(3, 2, 48), 48);
        d.due("34: nought again", x.get(3, 2, 47), 0);
        x.put(3, 2, 5, 9);
        x.sheet(3, 1, 3);
        x.sheet(3, 1, 6);
        d.due("34: nought in each new one", x.get(3, 1, 5), 0);
        x.sheet(1, 0, 48);
        x.sheet(2, 0, 48);
        for (int i = 0; i < 48; i++) {
            x.put(1, 0, i, i + 1);
            x.put(2, 0, i, i + 1);
        }
        x.sheet(1, 0, 48);
        for (int i = 0; i < 48; i++) {
            d.due("34: all nought", x.get(1, 0, i), 0);
            d.due("34: not those of others", x.get(2, 0, i), i + 1);
        }
        d.due("35: below", x.lose(-1), -2);
        d.due("35: above", x.lose(4), -2);
        d.due("35: had", x.lose(3), 6);
        d.due("35: null", x.lose(3), -11);
        d.due("35: its number", x.count(8), 1);
        d.due("35: none", x.lose(0), 0);
    }

    private static void putAndGet() {
        TenCoins x = new TenCoins();
        x.sheet(0, 0, 2);
        x.sheet(1, 1, 2);
        x.sheet(2, 2, 2);
        int[][] bad = {{-1, 0, 0}, {4, 0, 0}, {0, -1, 0}, {0, 3, 0}, {3, 3, 0}};
        for (int[] b : bad) {
            d.due("36: wrong put", x.put(b[0], b[1], b[2], 1), -2);
            d.due("37: wrong get", x.get(b[0], b[1], b[2]), MIN);
        }
        d.due("37: bad is no finding", x.count(8), 0);
        finding(x, 3, 0, 0, 1);
        finding(x, 3, 2, -1, 1);
        finding(x, 0, 1, 0, 3);
        finding(x, 2, 0, 5, 3);
        finding(x, 0, 0, -1, 2);
        finding(x, 0, 0, 2, 2);
        finding(x, 0, 0, MAX, 2);
        int[] values = {0, 1, -1, 127, 128, -128, -129, 255, 256, 32767, 32768, -32768, -32769, 65536, MAX, MIN};
        for (int v : values) {
            d.due("36: byte", x.put(0, 0, 1, v), 1);
            d.due("37: byte " + v, x.get(0, 0, 1), (byte) v);
            d.due("36: short", x.put(1, 1, 0, v), 1);
            d.due("37: short " + v, x.get(1, 1, 0), (short) v);
            d.due("36: int", x.put(2, 2, 1, v), 1);
            d.due("37: int " + v, x.get(2, 2, 1), v);
        }
        d.due("36: the other item", x.get(0, 0, 0), 0);
    }

    private static void finding(TenCoins x, int s, int form, int i, int number) {
        x.sheet(1, 1, -1);
        d.due("36: finding " + number, x.put(s, form, i, 1), -10 - number);
        d.due("36: its number", x.count(8), number);
        x.sheet(1, 1, -1);
        d.due("37: finding " + number, x.get(s, form, i), MIN);
        d.due("37: its number", x.count(8), number);
    }

    private static TenCoins numbered() {
        TenCoins x = new TenCoins();
        x.sheet(0, 2, 5);
        x.sheet(1, 2, 3);
        x.sheet(2, 0, 48);
        for (int i = 0; i < 5; i++) {
            x.put(0, 2, i, i + 1);
        }
        return x;
    }

    private static void items(String call, TenCoins x, int s, int... wanted) {
        for (int i = 0; i < wanted.length; i++) {
            d.due(call + " item " + i, x.get(s, 2, i), wanted[i]);
        }
    }

    private static void copy() {
        TenCoins x = numbered();
        d.due("38: s", x.copy(-1, 0, 0, 0, 0), -2);
        d.due("38: t", x.copy(0, 0, 4, 0, 0), -2);
        d.due("38: bad ahead of null", x.copy(3, 0, 4, 0, 0), -2);
        d.due("38: s lost", x.copy(3, 0, 0, 0, 0), -11);
        d.due("38: t lost", x.copy(0, -1, 3, 0, 0), -11);
        d.due("38: unlike forms", x.copy(0, -1, 2, 0, 9), -14);
        d.due("38: its number", x.count(8), 4);
        int[][] beyond = {{-1, 0, 1}, {0, -1, 1}, {0, 0, -1}, {0, 0, 4}, {4, 0, 2}, {0, 2, 2}, {6, 0, 0}, {0, 4, 0},
            {MAX, 0, 1}, {0, MAX, 1}, {1, 1, MAX}, {MAX, MAX, MAX}, {0, 0, MIN}, {MIN, 0, 0}};
        for (int[] b : beyond) {
            d.due("38: index " + b[0] + " " + b[1] + " " + b[2], x.copy(0, b[0], 1, b[1], b[2]), -12);
        }
        d.due("38: its number", x.count(8), 2);
        items("38: nothing changed", x, 1, 0, 0, 0);
        d.due("38: none at the ends", x.copy(0, 5, 1, 3, 0), 1);
        d.due("38: two", x.copy(0, 3, 1, 1, 2), 1);
        items("38: two", x, 1, 0, 4, 5);
        items("38: source", x, 0, 1, 2, 3, 4, 5);
        d.due("38: up", x.copy(0, 0, 0, 1, 4), 1);
        items("38: up", x, 0, 1, 1, 2, 3, 4);
        d.due("38: down", x.copy(0, 2, 0, 0, 3), 1);
        items("38: down", x, 0, 2, 3, 4, 3, 4);
        d.due("38: whole", x.copy(0, 0, 0, 0, 5), 1);
        items("38: whole", x, 0, 2, 3, 4, 3, 4);
    }

    private static void write() {
        TenCoins x = numbered();
        x.pair(0, 0, 9, 0, 0);
        x.pair(1, 0, 8, 1, 0);
        x.pair(0, 1, 7, 1, 0);
        x.pair(0, 0, 6, 1, 0);
        x.pair(0, 0, 10, 1, 5);
        int[][] bad = {{-2, 0, 0}, {4, 0, 0}, {0, -1, 0}, {0, 4, 0}, {0, 0, -1}, {0, 0, 4}, {4, 0, 3}};
        for (int[] b : bad) {
            d.due("39: wrong write", x.write(b[0], b[1], b[2]), -2);
        }
        d.due("39: lost", x.write(0, 0, 3), -11);
        d.due("39: its number", x.count(8), 1);
        d.due("39: of one", x.write(0, 0, 0), 3);
        items("39: of one, the rest stays", x, 0, 9, 6, 10, 4, 5);
        d.due("39: of all, as many as fit", x.write(-1, 0, 1), 3);
        items("39: of all", x, 1, 9, 8, 6);
        x.takeBack(0, 6);
        d.due("39: what counts", x.write(-1, 0, 0), 3);
        items("39: what counts", x, 0, 8, 6, 10, 4, 5);
        x.asOf(4);
        d.due("39: as of", x.write(0, 0, 0), 2);
        items("39: as of", x, 0, 9, 6, 10, 4, 5);
        d.due("39: none", x.write(2, 0, 0), 0);
        d.due("39: bytes", x.write(0, 1, 2), 1);
        d.due("39: a byte", x.get(2, 0, 0), 7);
        x.sheet(2, 1, 0);
        d.due("39: no items", x.write(-1, 0, 2), 0);
    }

    private static void count() {
        TenCoins x = new TenCoins();
        d.due("40: below", x.count(-1), -2);
        d.due("40: above", x.count(9), -2);
        x.pair(0, 0, 1, 1, 3);
        x.pair(0, 0, 1, 1, 5);
        x.row(0, 1);
        x.row(0, 1);
        x.row(0, 1);
        for (int k = 0; k < 4; k++) {
            x.belief(k);
        }
        Due.typeAll(x, "g(12x");
        for (int k = 0; k < 6; k++) {
            x.thing(k, k, k, k);
        }
        for (int k = 0; k < 7; k++) {
            x.round(k, 1);
        }
        x.asOf(4);
        x.copy(0, 0, 0, 0, 0);
        int[] wanted = {2, 1, 3, 4, 5, 6, 7, 4, 1};
        for (int what = 0; what < wanted.length; what++) {
            d.due("40: count " + what, x.count(what), wanted[what]);
        }
    }
}
