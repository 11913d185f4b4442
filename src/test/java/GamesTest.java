/** Promises 18 to 23. */
public final class GamesTest {
    private static final Due d = new Due();

    public static void main(String[] args) {
        typeAndWipe();
        fault();
        reckon();
        how();
        temper();
        d.done();
    }

    private static void typeAndWipe() {
        TenCoins x = new TenCoins();
        d.due("18: below", x.type(-1), -2);
        d.due("18: above", x.type(256), -2);
        for (int k = 1; k <= 60; k++) {
            d.due("18: how many", x.type(k % 2 == 0 ? 0 : 255), k);
        }
        d.due("18: full", x.type('g'), -4);
        d.due("18: bad ahead of full", x.type(256), -2);
        d.due("18: sixty", x.count(4), 60);
        d.due("19: had", x.wipe(), 60);
        d.due("19: empty", x.wipe(), 0);
        d.due("19: fault of empty", x.fault(), 0);
        d.due("18: anew", x.type('5'), 1);
    }

    private static void fault() {
        String[] texts = {"", "5", "55", "550", "5501", "55x", "5g", "x", "G", "g", "g5", "g(", "g()", "g(5", "g(550",
            "g(550)", "g(550))", "g(550),", "g(550,", "g(550,)", "g(550,550,550,550)", "g(550,550,550,550,",
            "g(a(t(123)))", "g(a(t(123))", "g(a(t(123)),a)", "g(550 )", "t(a(111,222),333", "(550)", ",", ")",
            "g(111,a(222,t(333)),444)x", "/00", ":00", "0/0", "00:"};
        int[] places = {0, 1, 2, -1, 3, 2, 1, 0, 0, 1, 1, 2, 2, 3, 5,
            -1, 6, 6, 6, 6, -1, 17,
            -1, 11, 13, 5, 16, 0, 0, 0,
            24, 0, 0, 1, 2};
        TenCoins x = new TenCoins();
        for (int k = 0; k < texts.length; k++) {
            Due.typeAll(x, texts[k]);
            d.due("20: fault of " + texts[k], x.fault(), places[k]);
        }
        Due.typeAll(x, "g(".repeat(30));
        d.due("20: thirty open", x.fault(), 60);
        Due.typeAll(x, "a(".repeat(19) + "123" + ")".repeat(19));
        d.due("20: nineteen deep", x.fault(), -1);
        d.due("21: their letters", x.reckon(0, 5), 19);
        d.due("21: on the way", x.reckon(40, 3), 19);
        d.due("22: the last", x.how(40, 18), 0);
        d.due("22: beyond", x.how(40, 19), -1);
        Due.typeAll(x, "g(".repeat(28) + "123");
        d.due("20: many open, then an end", x.fault(), 59);
        d.due("20: nobody's letter", x.reckon(0, 0), -3);
        TenCoins y = new TenCoins();
        for (char c : "t(123,456)".toCharArray()) {
            y.type(c);
        }
        d.due("20: never wiped", y.fault(), -1);
        d.due("21: never wiped", y.reckon(0, 2), 6);
        x.wipe();
        x.type('g' + 128);
        d.due("20: high byte", x.fault(), 0);
    }

    private static void reckon() {
        TenCoins x = new TenCoins();
        d.due("21: empty", x.reckon(0, 0), -3);
        d.due("21: bad ahead of a fault", x.reckon(-1, 0), -2);
        d.due("21: anger above", x.reckon(41, 0), -2);
        d.due("21: what below", x.reckon(0, -1), -2);
        d.due("21: what above", x.reckon(0, 6), -2);
        Due.typeAll(x, "123");
        int[] end = {1, 2, 3, 0, 1, 0};
        for (int what = 0; what < 6; what++) {
            d.due("21: an end " + what, x.reckon(9, what), end[what]);
        }
        Due.typeAll(x, "g(123,t(210,109),a(321),222)");
        int[] calm = {3, 2, 1, 2, 5, 3};
        for (int what = 0; what < 6; what++) {
            d.due("21: calm " + what, x.reckon(0, what), calm[what]);
        }
        Due.typeAll(x, "a(190,119)");
        d.due("21: like ones, the first", x.reckon(0, 1), 9);
        Due.typeAll(x, "t(550,505,005)");
        d.due("21: the first of the like", x.reckon(0, 0), 5);
        Due.typeAll(x, "a(029,010,000)");
        d.due("21: anger at the third", x.reckon(1, 1), 1);
        d.due("21: much anger", x.reckon(40, 1), 1);
        d.due("21: no anger", x.reckon(0, 1), 2);
        Due.typeAll(x, "a(310,000)");
        d.due("21: worth like nothing", x.reckon(2, 1), 1);
        d.due("21: worth below nothing", x.reckon(3, 1), 0);
        Due.typeAll(x, "a(971,111)");
        d.due("21: the one with the most alone", x.reckon(12, 1), 7);
        d.due("21: of like ones the first", x.reckon(12, 0), 9);
        d.due("21: one more", x.reckon(13, 1), 1);
    }

    private static void how() {
        TenCoins x = new TenCoins();
        d.due("22: bad ahead of a fault", x.how(0, -1), -2);
        d.due("22: anger above", x.how(41, 0), -2);
        d.due("22: anger below", x.how(-1, 0), -2);
        d.due("22: fault", x.how(0, 0), -3);
        Due.typeAll(x, "550");
        d.due("22: no letters", x.how(0, 0), -1);
        Due.typeAll(x, "g(000,a(000,001,t(000,001,002,983)),111)");
        int[] way = {1, 2, 3, -1, -1};
        for (int i = 0; i < way.length; i++) {
            d.due("22: at " + i, x.how(0, i), way[i]);
        }
        d.due("22: far beyond", x.how(0, Integer.MAX_VALUE), -1);
        d.due("22: another anger", x.how(40, 0), 2);
        d.due("22: its end", x.how(40, 1), -1);
    }

    private static void temper() {
        TenCoins x = new TenCoins();
        d.due("23: fault", x.temper(), -3);
        String[] texts = {"820", "g(a(820,000),a(550,000))", "a(900,000)", "a(910,000)", "a(310,000)",
            "a(110,990)", "g(910,910)", "a(010,000)", "a(980,550)", "a(990,881)", "g(a(970,550),a(550))",
            "t(g(550,640),a(990,000))", "a(960,450)", "a(121,010)", "a(151,141)"};
        int[] least = {-1, 2, 1, 1, 3, -1, -1, -1, 13, -1, 5, -1, 2, -1, -1};
        for (int k = 0; k < texts.length; k++) {
            Due.typeAll(x, texts[k]);
            d.due("23: temper of " + texts[k], x.temper(), least[k]);
        }
        Due.typeAll(x, "g(a(920,000),a(920,111),920)");
        d.due("23: an end of like figures is another", x.temper(), 2);
        d.due("23: its figures", x.reckon(2, 0), 9);
        d.due("23: its place", x.how(2, 0), 2);
        Due.typeAll(x, "a(190,000)");
        d.due("23: the one ahead is not angry", x.temper(), -1);
        Due.typeAll(x, "g(089,770)");
        d.due("23: the giver likes more", x.temper(), -1);
        Due.typeAll(x, "g(890,700)");
        d.due("23: five", x.temper(), 5);
        Due.typeAll(x, "a(980,770)");
        d.due("23: like at four, other at five", x.temper(), 5);
        Due.typeAll(x, "g(190,000)");
        d.due("23: one", x.temper(), 1);
    }
}
