/** Promise 41, and that refusals change nothing. */
public final class DigestTest {
    private static final Due d = new Due();

    public static void main(String[] args) {
        ofNothing();
        ofAllThings();
        refusalsChangeNothing();
        d.done();
    }

    private static long mixed(long... values) {
        long h = 17;
        for (long value : values) {
            h = 31 * h + value;
        }
        return h;
    }

    private static void ofNothing() {
        long none = Long.MIN_VALUE + 3;
        d.due("41: nothing", new TenCoins().digest(), mixed(0, 0, 0, 0, 0, 0, 0, 999, 0,
            0, 0, 0, 0, 0, 0, 0, 0, 0, 0, 0, 0, 0, 0, 0, 0, 0, 0, 0, 0, 0, 0, 0, 0, 0, 0, 0, 0, 0, 0, 0, 0,
            0, 0, 0, 0, 0, 0, 0, 0, none, none, -3,
            -3, -3, -3, -3, -3, -3, -3, -3, -3, -3, -3, -3, -3, -3, 0, 0));
    }

    private static TenCoins full() {
        TenCoins x = new TenCoins();
        x.pair(0, 0, 4, 1, 0);
        x.pair(0, 0, 1, 0, 0);
        x.pair(3, 0, 5, 1, 1);
        x.pair(2, 1, 6, 1, 2);
        x.pair(1, 3, 6, 0, 3);
        x.takeBack(0, 3);
        x.asOf(2);
        x.row(0, 0b11100000001);
        x.row(1, 0b11111000000);
        x.belief(2);
        x.believe(0, 9, 5);
        x.believe(0, 4, 1);
        Due.typeAll(x, "g(a(910,000),a(410,000),333)");
        x.thing(4, 0, 0, 9);
        x.thing(4, 0, 0, 3);
        x.round(4, 0);
        x.round(6, 1);
        return x;
    }

    private static void ofAllThings() {
        d.due("41: all things", full().digest(), mixed(5, 4, 2, 1, 28, 2, 2, 2, -1,
            3, 1, 1, 0, 0, 0, 0, 0,
            2, 1, 0, 0, 0, 0, 0, 0,
            0, 0, 0, 0, 0, 0, 0, 0,
            0, 0, 1, 0, 0, 0, 0, 0,
            1, 0, 0, 0, 0, 0, 0, 0,
            10, 3, 0,
            1, 8, 10, 0, 6, 10,
            4,
            9, 1, 0, 2, 5, 3, 3, 3, 3, 1,
            1, -1,
            1000000,
            2, 0, 0, 4, 4));
    }

    private static void refusalsChangeNothing() {
        TenCoins x = full();
        x.sheet(0, 1, 2);
        long before = x.digest();
        x.pair(0, 0, 4, 1, 2);
        x.pair(0, 0, 11, 1, 4);
        x.pair(0, 1, 5, 0, 900);
        x.takeBack(0, 900);
        x.takeBack(9, 900);
        x.asOf(1000);
        x.read(3, 0, 0, 900);
        x.row(0, 2048);
        x.belief(4);
        x.believe(0, 9, 11);
        x.type(256);
        x.thing(0, 0, 0, 100);
        x.story(0, 0, 16);
        x.round(11, 0);
        x.sheet(0, 0, -1);
        x.put(0, 0, 0, 1);
        x.get(0, 1, 2);
        x.copy(0, 0, 3, 0, 1);
        x.write(0, 0, 3);
        d.due("41: as ahead of the refusals", x.digest(), before);
        d.due("2: refused ones tell no time", x.pair(0, 0, 5, 1, 3), 5);
        d.due("34: the sheet stands", x.lose(0), 2);
        d.due("40: but the finding is kept", x.count(8), 1);
        TenCoins y = new TenCoins();
        long empty = y.digest();
        y.sheet(0, 0, 3);
        y.put(0, 0, 0, 7);
        y.story(0, 0, 3);
        y.lose(1);
        d.due("41: no sheets, stories, findings in it", y.digest(), empty);
    }
}
