/** Promises 24 to 29. */
public final class PeoplesTest {
    private static final Due d = new Due();

    public static void main(String[] args) {
        two();
        thing();
        goes();
        looked();
        story();
        odds();
        d.done();
    }

    private static void tell(TenCoins x, int people, int... offers) {
        for (int offer : offers) {
            x.pair(people, 0, offer, 1, 0);
        }
    }

    private static void two() {
        TenCoins x = new TenCoins();
        int[][] bad = {{-1, 0}, {0, -1}, {4, 0}, {0, 4}, {2, 2}};
        for (int[] b : bad) {
            d.due("24: wrong two", x.two(b[0], b[1]), -2);
        }
        d.due("24: none", x.two(0, 1), -3);
        tell(x, 0, 1, 2, 3);
        d.due("24: one has none", x.two(0, 1), -3);
        d.due("24: the other way", x.two(1, 0), -3);
        x.pair(1, 1, 9, 1, 0);
        d.due("24: another kind is none", x.two(0, 1), -3);
        tell(x, 1, 7, 8);
        d.due("24: one of ten", x.two(0, 1), 100000);
        d.due("24: like it", x.two(1, 0), 100000);
        tell(x, 2, 2);
        d.due("24: no difference", x.two(0, 2), 1000000);
        tell(x, 3, 4);
        d.due("24: cut", x.two(1, 3), 333333);
        tell(x, 0, 4, 5, 6, 7, 8, 9, 10, 0, 0);
        d.due("24: fourteen, 32 of 91", x.two(0, 1), 351648);
        tell(x, 1, 7);
        d.due("24: fifteen", x.two(0, 1), -4);
        d.due("24: none ahead of full", filled().two(0, 1), -3);
        TenCoins y = new TenCoins();
        tell(y, 0, 0, 0, 0, 0, 0, 0, 0);
        tell(y, 1, 10, 10, 10, 10, 10, 10, 10);
        d.due("24: two of 3432", y.two(0, 1), 582);
        d.due("24: likewise", y.two(1, 0), 582);
        y.takeBack(0, 1);
        d.due("24: one of 1716, two ways no more", y.two(0, 1), 582);
        TenCoins z = new TenCoins();
        tell(z, 2, 0, 0, 0, 0, 0, 0, 0, 0, 0, 0, 0, 0);
        tell(z, 3, 10, 10);
        d.due("24: twelve and two, one of 91", z.two(2, 3), 10989);
        d.due("24: two and twelve", z.two(3, 2), 10989);
    }

    private static TenCoins filled() {
        TenCoins x = new TenCoins();
        tell(x, 0, 1, 1, 1, 1, 1, 1, 1, 1, 1, 1, 1, 1, 1, 1, 1);
        return x;
    }

    private static void thing() {
        TenCoins x = new TenCoins();
        for (int place = 0; place < 4; place++) {
            for (int wrong : new int[] {-1, 100}) {
                int[] n = {0, 99, 0, 99};
                n[place] = wrong;
                d.due("25: wrong thing", x.thing(n[0], n[1], n[2], n[3]), -2);
            }
        }
        for (int k = 0; k < 6; k++) {
            d.due("25: number", x.thing(0, 99, k, 7), k);
        }
        d.due("25: full", x.thing(0, 0, 0, 0), -4);
        d.due("25: bad ahead of full", x.thing(0, 0, 0, 100), -2);
        d.due("25: six", x.count(5), 6);
    }

    private static void goes() {
        TenCoins x = new TenCoins();
        d.due("26: none", x.goes(0), -99);
        x.thing(10, 20, 30, 40);
        x.thing(40, 30, 20, 10);
        x.thing(1, 1, 2, 2);
        d.due("26: below", x.goes(-1), -99);
        d.due("26: beyond", x.goes(3), -99);
        d.due("26: no means", x.goes(0), 0);
        tell(x, 0, 2, 3);
        d.due("26: one mean", x.goes(0), 0);
        tell(x, 1, 3);
        d.due("26: together", x.goes(0), 1);
        d.due("26: against", x.goes(1), -1);
        d.due("26: like numbers", x.goes(2), 0);
        tell(x, 3, 9);
        d.due("26: three means", x.goes(0), 3);
        tell(x, 2, 5, 1);
        d.due("26: like means", x.goes(0), 5);
        d.due("26: like means and numbers", x.goes(2), 3);
        d.due("26: all against", x.goes(1), -5);
        x.pair(2, 1, 10, 1, 0);
        d.due("26: another kind", x.goes(0), 5);
    }

    private static void looked() {
        TenCoins x = new TenCoins();
        d.due("27: no things", x.looked(), -3);
        tell(x, 0, 1);
        tell(x, 1, 2);
        d.due("27: means but no things", x.looked(), -3);
        TenCoins y = new TenCoins();
        y.thing(1, 2, 3, 4);
        tell(y, 3, 1);
        d.due("27: one mean", y.looked(), -3);
        tell(y, 1, 2);
        d.due("27: two means", y.looked(), 1000000);
        tell(y, 0, 3);
        d.due("27: three means, two orders of six", y.looked(), 333333);
        tell(y, 2, 9);
        d.due("27: four", y.looked(), 750000);
        TenCoins z = new TenCoins();
        z.thing(1, 2, 3, 4);
        tell(z, 0, 1);
        tell(z, 1, 2);
        tell(z, 2, 3);
        tell(z, 3, 4);
        d.due("27: two of 24", z.looked(), 83333);
        z.thing(1, 3, 2, 4);
        d.due("27: more was looked at", z.looked(), 166666);
        z.thing(5, 5, 5, 5);
        d.due("27: what never goes", z.looked(), 166666);
        for (int k = 3; k < 6; k++) {
            z.thing(7, 7, 7, 7);
        }
        d.due("27: six things", z.looked(), 166666);
        TenCoins w = new TenCoins();
        w.thing(0, 1, 1, 2);
        tell(w, 0, 2);
        tell(w, 1, 1);
        tell(w, 2, 1);
        tell(w, 3, 3);
        d.due("26: like means, like numbers", w.goes(0), 1);
        d.due("27: some orders do not go at all", w.looked(), 833333);
    }

    private static void story() {
        TenCoins x = new TenCoins();
        int[][] bad = {{-1, 0, 5}, {3, 0, 5}, {0, -1, 5}, {0, 3, 5}, {0, 0, 0}, {0, 0, 16}, {0, 0, -1}};
        for (int[] b : bad) {
            d.due("28: wrong story", x.story(b[0], b[1], b[2]), -2);
        }
        d.due("28: at first", x.story(2, 2, 15), 8);
        d.due("28: then", x.story(2, 2, 1), 15);
        d.due("28: another span", x.story(2, 1, 2), 8);
        d.due("28: another story", x.story(1, 2, 2), 8);
    }

    private static void odds() {
        TenCoins x = new TenCoins();
        int[][] bad = {{-2, 0, 0}, {4, 0, 0}, {0, -1, 0}, {0, 3, 0}, {0, 0, -1}, {0, 0, 2}};
        for (int[] b : bad) {
            d.due("29: wrong odds", x.odds(b[0], b[1], b[2]), Due.BAD);
        }
        d.fraction("29: no answers", x.odds(0, 2, 0), x.odds(0, 2, 1), 1, 3);
        x.story(0, 0, 12);
        x.story(1, 1, 4);
        x.story(2, 2, 15);
        x.pair(0, 0, 3, 0, 0);
        d.fraction("29: a small no", x.odds(0, 0, 0), x.odds(0, 0, 1), 3, 7);
        d.fraction("29: others", x.odds(0, 1, 0), x.odds(0, 1, 1), 2, 7);
        x.pair(3, 0, 0, 0, 0);
        d.fraction("29: the smallest no", x.odds(3, 0, 0), x.odds(3, 0, 1), 3, 7);
        x.takeBack(1, 0);
        x.pair(1, 0, 4, 1, 0);
        d.fraction("29: a middle yes", x.odds(1, 1, 0), x.odds(1, 1, 1), 3, 7);
        x.pair(2, 0, 7, 0, 0);
        d.fraction("29: a large no", x.odds(2, 2, 0), x.odds(2, 2, 1), 15, 31);
        x.pair(2, 1, 7, 1, 0);
        d.fraction("29: another kind", x.odds(2, 2, 0), x.odds(2, 2, 1), 15, 31);
        d.fraction("29: all", x.odds(-1, 0, 0), x.odds(-1, 0, 1), 4, 13);
        TenCoins y = new TenCoins();
        y.story(0, 1, 15);
        y.story(1, 1, 14);
        y.story(2, 1, 13);
        for (int k = 0; k < 14; k++) {
            y.pair(3, 0, k % 2 == 0 ? 4 : 6, 0, 0);
        }
        long all = 29192926025390625L + 11112006825558016L + 3937376385699289L;
        d.fraction("29: fourteen", y.odds(3, 0, 0), y.odds(3, 0, 1), 29192926025390625L / 5, all / 5);
        d.fraction("29: the third", y.odds(3, 2, 0), y.odds(3, 2, 1), 3937376385699289L, all);
        y.pair(3, 0, 4, 0, 0);
        d.due("29: fifteen", y.odds(3, 0, 0), Due.FULL);
        d.due("29: bad ahead of full", y.odds(3, 3, 0), Due.BAD);
        d.fraction("29: of others", y.odds(2, 0, 0), y.odds(2, 0, 1), 1, 3);
    }
}
