/** Promises 30 to 33. */
public final class RoundsTest {
    private static final Due d = new Due();

    public static void main(String[] args) {
        roundAndForget();
        misses();
        learnt();
        gotAndCould();
        d.done();
    }

    private static void tell(TenCoins x, int... offersAndAnswers) {
        x.forget();
        for (int k = 0; k < offersAndAnswers.length; k += 2) {
            x.round(offersAndAnswers[k], offersAndAnswers[k + 1]);
        }
    }

    private static void roundAndForget() {
        TenCoins x = new TenCoins();
        int[][] bad = {{-1, 0}, {11, 0}, {0, -1}, {0, 2}};
        for (int[] b : bad) {
            d.due("30: wrong round", x.round(b[0], b[1]), -2);
        }
        for (int k = 1; k <= 24; k++) {
            d.due("30: how many", x.round(k % 11, k % 2), k);
        }
        d.due("30: full", x.round(0, 0), -4);
        d.due("30: bad ahead of full", x.round(11, 0), -2);
        d.due("30: count", x.count(6), 24);
        d.due("33: could of 24", x.learnt(4), 36);
        d.due("31: there were", x.forget(), 24);
        d.due("31: none", x.forget(), 0);
        d.due("31: got", x.learnt(3), 0);
        d.due("31: could", x.learnt(4), 0);
        d.due("31: missed", x.misses(1, 1), 0);
        d.due("30: anew", x.round(5, 1), 1);
    }

    private static void misses() {
        TenCoins x = new TenCoins();
        int[][] bad = {{-1, 0}, {5, 0}, {0, -1}, {0, 5}};
        for (int[] b : bad) {
            d.due("32: wrong law", x.misses(b[0], b[1]), -2);
        }
        d.due("32: none", x.misses(4, 4), 0);
        tell(x, 9, 0);
        d.due("32: the first is free", x.misses(4, 4), 0);
        tell(x, 9, 0, 10, 1, 2, 1, 0, 0, 3, 1);
        d.due("32: ten at most, nought at least", x.misses(3, 4), 4);
        d.due("32: still", x.misses(0, 0), 1 + 8 + 2 + 3);
        tell(x, 5, 1, 7, 1);
        d.due("32: behind a yes it is less", x.misses(4, 1), 3);
    }

    private static void learnt() {
        TenCoins x = new TenCoins();
        d.due("33: below", x.learnt(-1), -2);
        d.due("33: above", x.learnt(5), -2);
        for (int what = 0; what < 3; what++) {
            d.due("33: no rounds", x.learnt(what), -3);
        }
        tell(x, 5, 0);
        for (int what = 0; what < 3; what++) {
            d.due("33: one round", x.learnt(what), -3);
        }
        law(x, 0, 0, 0, 5, 0, 5, 1);
        law(x, 3, 0, 0, 5, 0, 8, 0);
        law(x, 0, 4, 1, 9, 1, 4, 1);
        law(x, 2, 1, 0, 5, 0, 7, 1, 6, 1, 5, 0, 7, 0);
        law(x, 1, 0, 0, 9, 0, 10, 0, 10, 0);
        law(x, 1, 0, 2, 5, 0, 6, 0, 9, 0);
        law(x, 0, 2, 0, 2, 1, 0, 1);
        law(x, 0, 1, 0, 2, 1, 1, 1);
        law(x, 4, 0, 0, 2, 0, 6, 1);
        law(x, 0, 0, 5, 0, 1, 5, 1);
    }

    private static void law(TenCoins x, int u, int down, int missed, int... offersAndAnswers) {
        tell(x, offersAndAnswers);
        d.due("33: u", x.learnt(0), u);
        d.due("33: d", x.learnt(1), down);
        d.due("33: misses", x.learnt(2), missed);
    }

    private static void gotAndCould() {
        TenCoins x = new TenCoins();
        d.due("33: got nothing", x.learnt(3), 0);
        d.due("33: could nothing", x.learnt(4), 0);
        tell(x, 4, 0);
        d.due("33: refused", x.learnt(3), 0);
        d.due("33: and no else", x.learnt(4), 0);
        tell(x, 4, 1);
        d.due("33: got", x.learnt(3), 6);
        d.due("33: could", x.learnt(4), 6);
        tell(x, 1, 0, 2, 1, 3, 1, 6, 1, 9, 0);
        d.due("33: got of three", x.learnt(3), 19);
        d.due("33: could by three", x.learnt(4), 14);
        tell(x, 10, 1, 10, 1, 0, 1);
        d.due("33: ten leaves nothing", x.learnt(3), 10);
        d.due("33: nought brings ten", x.learnt(4), 10);
    }
}
