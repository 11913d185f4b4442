/** Promises 10 to 17. */
public final class RowsTest {
    private static final Due d = new Due();

    public static void main(String[] args) {
        row();
        line();
        takenAndBest();
        beliefs();
        off();
        d.done();
    }

    private static void row() {
        TenCoins x = new TenCoins();
        int[][] bad = {{-1, 0}, {4, 0}, {0, -1}, {0, 2048}, {Integer.MIN_VALUE, Integer.MAX_VALUE}};
        for (int[] b : bad) {
            d.due("10: wrong row", x.row(b[0], b[1]), -2);
        }
        for (int k = 0; k < 12; k++) {
            d.due("10: number", x.row(k % 4, 2047), k);
        }
        d.due("10: full", x.row(0, 0), -4);
        d.due("10: bad ahead of full", x.row(0, 2048), -2);
        d.due("10: twelve", x.count(2), 12);
        d.fraction("12: of twelve", x.taken(-1, 3, 0), x.taken(-1, 3, 1), 1, 1);
    }

    private static void line() {
        TenCoins x = new TenCoins();
        d.due("11: none", x.line(0, 0), -2);
        // bits, MENDED, LINE, the greatest
        int[][] rows = {{0b00000000000, 1, 0, 0}, {0b11111111111, 0, 0, 10}, {0b10000000000, 0, 10, 10},
            {0b00111011000, 1, 3, 8}, {0b10000000001, 1, 0, 0}, {0b11000000011, 2, 0, 1}, {0b00000000101, 1, 0, 2},
            {0b11100000001, 1, 8, 10}, {0b01010000000, 1, 7, 9}, {0b10101010101, 5, 0, 10}, {0b01001001000, 2, 3, 3},
            {0b01100000110, 2, 1, 2}};
        for (int k = 0; k < rows.length; k++) {
            x.row(0, rows[k][0]);
            for (int what = 0; what < 3; what++) {
                d.due("11: line " + k + " " + what, x.line(k, what), rows[k][what + 1]);
            }
        }
        d.due("11: below", x.line(-1, 0), -2);
        d.due("11: beyond", x.line(12, 0), -2);
        d.due("11: what below", x.line(0, -1), -2);
        d.due("11: what above", x.line(0, 3), -2);
    }

    private static void takenAndBest() {
        TenCoins x = new TenCoins();
        d.due("12: no rows", x.taken(-1, 0, 0), Due.NOT);
        d.due("13: no rows", x.best(-1), -3);
        x.row(0, 0b11111110000);
        x.row(0, 0b11111100000);
        x.row(0, 0b11111110000);
        x.row(1, 0b00000000000);
        int[][] bad = {{-2, 0, 0}, {4, 0, 0}, {0, -1, 0}, {0, 11, 0}, {0, 0, -1}, {0, 0, 2}, {2, 11, 0}};
        for (int[] b : bad) {
            d.due("12: wrong taken", x.taken(b[0], b[1], b[2]), Due.BAD);
        }
        d.fraction("12: two of three", x.taken(0, 4, 0), x.taken(0, 4, 1), 2, 3);
        d.fraction("12: half of all", x.taken(-1, 4, 0), x.taken(-1, 4, 1), 1, 2);
        d.fraction("12: one", x.taken(0, 10, 0), x.taken(0, 10, 1), 1, 1);
        d.fraction("12: nothing", x.taken(1, 10, 0), x.taken(1, 10, 1), 0, 1);
        d.due("12: none of them", x.taken(2, 10, 0), Due.NOT);
        d.due("13: below", x.best(-2), -2);
        d.due("13: above", x.best(4), -2);
        d.due("13: none", x.best(3), -3);
        d.due("13: most", x.best(0), 5);
        d.due("13: of all", x.best(-1), 5);
        d.due("13: nothing taken, the least", x.best(1), 0);
        TenCoins y = new TenCoins();
        y.row(2, 0b00000100000);
        y.row(2, 0b00000100001);
        d.due("13: of like ones the least", y.best(2), 0);
        y.row(1, 0b11111111110);
        d.due("13: one coin", y.best(1), 1);
    }

    private static void beliefs() {
        TenCoins x = new TenCoins();
        d.due("14: all is no people", x.belief(-1), -2);
        d.due("14: above", x.belief(4), -2);
        d.due("15: no such", x.believe(0, 0, 0), -2);
        d.due("16: no such", x.hisBest(0), -2);
        for (int k = 0; k < 8; k++) {
            d.due("14: number", x.belief(k % 4), k);
        }
        d.due("14: full", x.belief(0), -4);
        d.due("14: bad ahead of full", x.belief(5), -2);
        d.due("14: eight", x.count(3), 8);
        int[][] bad = {{-1, 0, 0}, {8, 0, 0}, {0, -1, 0}, {0, 11, 0}, {0, 0, -1}, {0, 0, 11}};
        for (int[] b : bad) {
            d.due("15: wrong believe", x.believe(b[0], b[1], b[2]), -2);
        }
        d.due("15: at first", x.believe(7, 10, 10), 0);
        d.due("15: then", x.believe(7, 10, 3), 10);
        d.due("15: another", x.believe(6, 10, 1), 0);
        d.due("16: ten brings nothing", x.hisBest(7), 0);
        x.believe(7, 9, 10);
        d.due("16: nine", x.hisBest(7), 9);
        x.believe(5, 1, 9);
        x.believe(5, 2, 9);
        d.due("16: one coin", x.hisBest(5), 1);
        x.believe(7, 5, 2);
        d.due("16: of like ones the least", x.hisBest(7), 5);
        x.believe(7, 0, 1);
        d.due("16: nought, too", x.hisBest(7), 0);
        d.due("16: beyond", x.hisBest(8), -2);
        d.due("16: below", x.hisBest(-1), -2);
    }

    private static void off() {
        TenCoins x = new TenCoins();
        x.belief(1);
        d.due("17: no rows", x.off(0, 0, 0), Due.NOT);
        x.row(0, 2047);
        d.due("17: rows of others", x.off(0, 1, 0), Due.NOT);
        x.row(1, 0b11110000000);
        x.row(1, 0b11111000000);
        x.row(1, 0b11111000000);
        int[][] bad = {{-1, 0, 0}, {1, 0, 0}, {0, -1, 0}, {0, 2, 0}, {0, 0, -1}, {0, 0, 2}};
        for (int[] b : bad) {
            d.due("17: wrong off", x.off(b[0], b[1], b[2]), Due.BAD);
        }
        d.fraction("17: he believes nothing", x.off(0, 0, 0), x.off(0, 0, 1), 14, 3);
        d.fraction("17: and offers nothing", x.off(0, 1, 0), x.off(0, 1, 1), 3, 1);
        x.believe(0, 6, 9);
        x.believe(0, 0, 1);
        d.fraction("17: both sides add", x.off(0, 0, 0), x.off(0, 0, 1), 13, 3);
        d.fraction("17: cost", x.off(0, 1, 0), x.off(0, 1, 1), 1, 3);
        for (int offer = 7; offer <= 10; offer++) {
            x.believe(0, offer, 10);
        }
        d.fraction("17: less off", x.off(0, 0, 0), x.off(0, 0, 1), 1, 3);
        x.believe(0, 6, 0);
        d.fraction("17: best is his best", x.off(0, 1, 0), x.off(0, 1, 1), 0, 1);
        x.believe(0, 6, 9);
        x.belief(1);
        x.believe(1, 0, 10);
        d.fraction("17: his own belief alone", x.off(0, 0, 0), x.off(0, 0, 1), 1, 3);
    }
}
