/** Objects that have been used: with some of everything, and with as much of everything as there can be. */
final class States {
    static final int CALLS_FOR_SOME = 60;

    private States() {
    }

    static void some(TenCoins x) {
        x.sheet(3, 0, -1);
        x.pair(0, 0, 5, 1, 1);
        x.pair(0, 0, 4, 0, 2);
        x.pair(1, 0, 2, 0, 3);
        x.pair(2, 0, 8, 1, 4);
        x.pair(0, 1, 3, 1, 5);
        x.pair(0, 2, 3, 0, 6);
        x.pair(0, 3, 6, 1, 7);
        x.takeBack(3, 8);
        x.pair(3, 0, 6, 1, 9);
        x.asOf(20);
        x.row(0, 0b11111100000);
        x.row(0, 0b10110000000);
        x.row(1, 0b11111111110);
        x.belief(0);
        x.belief(1);
        x.believe(0, 5, 9);
        x.believe(0, 3, 4);
        x.believe(1, 10, 10);
        for (char c : "g(a(820,000),a(550,000),310)".toCharArray()) {
            x.type(c);
        }
        x.thing(10, 40, 30, 20);
        x.thing(1, 2, 3, 4);
        x.story(0, 0, 12);
        x.story(2, 2, 3);
        x.round(5, 0);
        x.round(7, 1);
        x.round(6, 1);
        x.sheet(0, 0, 3);
        x.sheet(1, 1, 48);
        x.sheet(2, 2, 4);
        x.put(0, 0, 2, -7);
        x.put(1, 1, 47, 3000);
        x.put(2, 2, 1, 100000);
    }

    static void full(TenCoins x) {
        for (int k = 0; k < 60; k++) {
            x.pair(k % 4, k < 40 ? 0 : k % 3 + 1, k % 11, k < 40 ? k / 4 % 2 : 1, k / 2);
        }
        for (int k = 0; k < 12; k++) {
            x.row(k % 4, 2047 - 100 * k);
        }
        for (int k = 0; k < 8; k++) {
            x.belief(k % 4);
            x.believe(k, k, k + 1);
        }
        for (char c : "g(a(123,234,345,456),t(567,678,789,890),a(t(901)),t(a(012)))".toCharArray()) {
            x.type(c);
        }
        for (int k = 0; k < 6; k++) {
            x.thing(k, 99 - k, 3 * k, 50);
        }
        for (int k = 0; k < 24; k++) {
            x.round(k % 7, k % 2);
        }
        for (int s = 0; s < 4; s++) {
            x.sheet(s, s % 3, 48);
        }
    }
}
