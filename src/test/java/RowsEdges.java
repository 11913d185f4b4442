/** Sentences about rows and beliefs: promises 10 to 17, and the terms that they use. */
final class RowsEdges extends Edges {
    static void run() {
        rowTerms();
        mending();
        shares();
        beliefTerms();
        row();
        line();
        taken();
        best();
        belief();
        believe();
        hisBest();
        off();
    }

    private static void lineOf(TenCoins x, int row, int mended, int least, int greatest) {
        due("line(" + row + ", 0)", x.line(row, 0), mended);
        due("line(" + row + ", 1)", x.line(row, 1), least);
        due("line(" + row + ", 2)", x.line(row, 2), greatest);
    }

    private static void rowTerms() {
        edge(TERMS, "ROWS, 12 at most:", x -> {
            for (int k = 0; k < 12; k++) {
                due("row", x.row(3, 1), k);
            }
            due("one more", x.row(3, 1), FULL);
            due("count", x.count(2), 12);
        });
        edge(TERMS, "one of a PEOPLE says to each OFFER 0 to 10 whether it would be taken (bits).", x -> {
            bounds("bits", 0, 2047, bits -> x.row(0, bits), BAD);
            x.row(1, 1);
            x.row(2, 1024);
            due("bit 0 is offer 0", x.taken(1, 0, 0), 1);
            due("and no other", x.taken(1, 1, 0), 0);
            due("bit 10 is offer 10", x.taken(2, 10, 0), 1);
            due("and no other", x.taken(2, 9, 0), 0);
        });
        edge(TERMS, "WHOLE is a ROW whose yeses are all beside one another, one at least;", x -> {
            x.row(0, 0b00000000001);
            x.row(0, 0b10000000000);
            x.row(0, 0b11111111111);
            x.row(0, 0b00011110000);
            x.row(0, 0b00000000000);
            x.row(0, 0b00001010000);
            int[] mended = {0, 0, 0, 0, 1, 1};
            for (int row = 0; row < mended.length; row++) {
                due("line(" + row + ", 0)", x.line(row, 0), mended[row]);
            }
        });
    }

    private static void mending() {
        edge(TERMS, "MENDED: the fewest answers to be turned over, so that it is WHOLE;", x -> {
            int[] rows = {0b10101010101, 0b11011011011, 0b10000000001, 0b11100000111, 0b01010101010, 0b11111011111};
            int[] mended = {5, 3, 1, 3, 4, 1};
            for (int row = 0; row < rows.length; row++) {
                x.row(0, rows[row]);
                due("mended " + row, x.line(row, 0), mended[row]);
            }
        });
        edge(TERMS, "its LINE: the least OFFER that is taken then (of like ones, those with the lesser LINE, then with the greater last one).", x -> {
            x.row(0, 0);
            lineOf(x, 0, 1, 0, 0);
            x.row(0, 0b10000000001);
            lineOf(x, 1, 1, 0, 0);
            x.row(0, 0b00000000101);
            lineOf(x, 2, 1, 0, 2);
            x.row(0, 0b10100000000);
            lineOf(x, 3, 1, 8, 10);
            x.row(0, 0b10101010101);
            lineOf(x, 4, 5, 0, 10);
            x.row(0, 0b00100001000);
            lineOf(x, 5, 1, 3, 3);
            x.row(0, 0b11000000110);
            lineOf(x, 6, 2, 1, 2);
            x.row(0, 0b10011000000);
            lineOf(x, 7, 1, 6, 7);
        });
        edge(TERMS, "its LINE: the least OFFER that is taken then", x -> everyRow());
    }

    /** Every row there is, against all whole ones by their definition. */
    private static void everyRow() {
        TenCoins x = new TenCoins();
        for (int bits = 0; bits < 2048; bits++) {
            if (bits % 12 == 0) {
                x = new TenCoins();
            }
            int row = x.row(bits % 4, bits);
            int best = MAX, mended = 0, least = 0, greatest = 0;
            for (int whole = 1; whole < 2048; whole++) {
                int from = Integer.numberOfTrailingZeros(whole);
                int to = 31 - Integer.numberOfLeadingZeros(whole);
                if (Integer.bitCount(whole) != to - from + 1) {
                    continue;
                }
                int turned = Integer.bitCount(bits ^ whole);
                int rank = turned * 10000 + from * 100 - to;
                if (rank < best) {
                    best = rank;
                    mended = turned;
                    least = from;
                    greatest = to;
                }
            }
            lineOf(x, row, mended, least, greatest);
        }
    }

    private static void shares() {
        edge(TERMS, "TAKEN: the share of ROWS of a PEOPLE (NONE: of all) that say yes to an OFFER.", x -> {
            x.row(0, 0b10000000000);
            x.row(0, 0b00000000000);
            x.row(0, 0b00000000001);
            x.row(3, 0b10000000000);
            fraction("of one", x.taken(0, 10, 0), x.taken(0, 10, 1), 1, 3);
            fraction("of all", x.taken(-1, 10, 0), x.taken(-1, 10, 1), 1, 2);
            fraction("nobody", x.taken(0, 5, 0), x.taken(0, 5, 1), 0, 1);
            fraction("everybody", x.taken(3, 10, 0), x.taken(3, 10, 1), 1, 1);
        });
        edge(TERMS, "BEST: the OFFER with the most of (10 less it) times TAKEN, of like ones the least.", x -> {
            x.row(0, 0b00000000000);
            due("nothing taken: all alike", x.best(0), 0);
            x.row(1, 0b10000000000);
            due("ten alone brings nothing", x.best(1), 0);
            x.row(2, 0b11000000000);
            due("nine brings one", x.best(2), 9);
            x.row(3, 0b00000100000);
            x.row(3, 0b00000100001);
            due("ten by one like five by two", x.best(3), 0);
            x.row(3, 0b00000100000);
            due("five by three is more", x.best(3), 5);
        });
    }

    private static void beliefTerms() {
        edge(TERMS, "BELIEFS, 8 at most:", x -> {
            for (int k = 0; k < 8; k++) {
                due("belief", x.belief(2), k);
            }
            due("one more", x.belief(2), FULL);
            due("count", x.count(3), 8);
        });
        edge(TERMS, "a giver of a PEOPLE thinks that to each OFFER so many of 10 would say yes (0 to 10; told OFFER by OFFER, 0 at first).", x -> {
            x.belief(0);
            for (int offer = 0; offer <= 10; offer++) {
                due("at first", x.believe(0, offer, 10), 0);
            }
            for (int wrong : outside(0, 10)) {
                due("believe " + wrong, x.believe(0, 5, wrong), BAD);
            }
            for (int offer = 0; offer <= 10; offer++) {
                due("then", x.believe(0, offer, 0), 10);
            }
            x.belief(0);
            due("another one's", x.believe(1, 0, 1), 0);
        });
        edge(TERMS, "HIS BEST: the OFFER with the most of (10 less it) times that, of like ones the least.", x -> {
            x.belief(1);
            due("nothing believed", x.hisBest(0), 0);
            x.believe(0, 10, 10);
            due("ten brings nothing", x.hisBest(0), 0);
            x.believe(0, 9, 4);
            due("nine", x.hisBest(0), 9);
            x.believe(0, 8, 2);
            due("like ones, the least", x.hisBest(0), 8);
            x.believe(0, 9, 5);
            due("more", x.hisBest(0), 9);
            x.believe(0, 0, 1);
            due("nought brings ten", x.hisBest(0), 0);
        });
        edge(TERMS, "OFF: over all OFFERS the amounts by which BELIEF by 10 and TAKEN of his PEOPLE differ, together; a FRACTION.", x -> {
            x.belief(1);
            x.row(1, 2047);
            x.row(0, 0);
            fraction("none against all", x.off(0, 0, 0), x.off(0, 0, 1), 11, 1);
            for (int offer = 0; offer <= 10; offer++) {
                x.believe(0, offer, 10);
            }
            fraction("all against all", x.off(0, 0, 0), x.off(0, 0, 1), 0, 1);
            x.row(1, 0b00000000001);
            fraction("half of ten", x.off(0, 0, 0), x.off(0, 0, 1), 5, 1);
            x.believe(0, 0, 7);
            x.believe(0, 10, 3);
            fraction("too little and too much add up", x.off(0, 0, 0), x.off(0, 0, 1), 5, 1);
            x.row(1, 0);
            fraction("of three", x.off(0, 0, 0), x.off(0, 0, 1), 91, 15);
        });
        edge(TERMS, "COST: what (10 less it) times TAKEN is by BEST of his PEOPLE, less by HIS BEST.", x -> {
            x.belief(1);
            x.row(0, 2047);
            x.row(1, 0b11111110000);
            x.row(1, 0b11111111000);
            x.row(1, 0b11111000000);
            fraction("he gives nothing", x.off(0, 1, 0), x.off(0, 1, 1), 4, 1);
            x.believe(0, 3, 1);
            fraction("he gives three", x.off(0, 1, 0), x.off(0, 1, 1), 5, 3);
            x.believe(0, 3, 0);
            x.believe(0, 4, 1);
            fraction("four is as good as six", x.off(0, 1, 0), x.off(0, 1, 1), 0, 1);
            x.believe(0, 5, 3);
            fraction("he gives five", x.off(0, 1, 0), x.off(0, 1, 1), 2, 3);
        });
    }

    private static void row() {
        edge(10, "A ROW more: its number.", x -> {
            due("the first", x.row(0, 0), 0);
            due("the second", x.row(3, 2047), 1);
            x.row(0, 2048);
            due("behind a refused one", x.row(0, 0), 2);
        });
        edge(10, "BAD;", x -> {
            bounds("people", 0, 3, v -> x.row(v, 1), BAD);
            bounds("bits", 0, 2047, v -> x.row(0, v), BAD);
            due("four stand", x.count(2), 4);
        });
        edge(10, "FULL.", x -> {
            for (int k = 0; k < 12; k++) {
                x.row(0, 1);
            }
            due("full", x.row(1, 1), FULL);
            due("BAD people goes ahead", x.row(4, 1), BAD);
            due("BAD bits go ahead", x.row(1, 2048), BAD);
            due("no row of it", x.taken(1, 0, 0), told(NOT));
        });
    }

    private static void line() {
        edge(11, "Of a ROW: MENDED (what = 0), its LINE (1), the greatest OFFER that is taken then (2).", x -> {
            x.row(0, 0b01110100000);
            lineOf(x, 0, 1, 5, 9);
            x.row(0, 0b11100000001);
            lineOf(x, 1, 1, 8, 10);
            due("the row stays as it was", x.taken(0, 0, 0), 1);
        });
        edge(11, "BAD.", x -> {
            due("no row", x.line(0, 0), BAD);
            x.row(0, 1);
            x.row(0, 1);
            bounds("row", 0, 1, v -> x.line(v, 0), BAD);
            bounds("what", 0, 2, v -> x.line(0, v), BAD);
        });
    }

    private static void taken() {
        edge(12, "TAKEN: above, below.", x -> {
            for (int k = 0; k < 12; k++) {
                x.row(2, k < 8 ? 0b100 : 0);
            }
            fraction("lowest terms", x.taken(2, 2, 0), x.taken(2, 2, 1), 2, 3);
            fraction("nothing", x.taken(2, 3, 0), x.taken(2, 3, 1), 0, 1);
        });
        edge(12, "BAD;", x -> {
            x.row(0, 1);
            bounds("people", -1, 3, v -> x.taken(v, 0, 0), told(BAD));
            bounds("offer", 0, 10, v -> x.taken(0, v, 0), told(BAD));
            bounds("what", 0, 1, v -> x.taken(0, 0, v), told(BAD));
            due("BAD goes ahead of NOT", x.taken(1, 11, 0), told(BAD));
        });
        edge(12, "NOT: no ROWS.", x -> {
            due("of all", x.taken(-1, 0, 0), told(NOT));
            x.row(0, 0);
            due("of another", x.taken(1, 0, 0), told(NOT));
            due("of another, below", x.taken(1, 0, 1), told(NOT));
            due("of all now", x.taken(-1, 0, 0), 0);
        });
        edge(12, "(A refusal -x is the least long and x more.)", x -> {
            due("BAD", x.taken(0, 0, 2) - Long.MIN_VALUE, 2);
            due("NOT", x.taken(0, 0, 0) - Long.MIN_VALUE, 3);
        });
    }

    private static void best() {
        edge(13, "BEST.", x -> {
            x.row(1, 0b11111111110);
            x.row(2, 0b11111000000);
            x.row(2, 0b11111000000);
            due("of one", x.best(1), 1);
            due("of another", x.best(2), 6);
            due("of all", x.best(-1), 6);
        });
        edge(13, "BAD;", x -> {
            x.row(0, 1);
            bounds("people", -1, 3, v -> x.best(v), BAD);
        });
        edge(13, "NOT: no ROWS.", x -> {
            due("of all", x.best(-1), NOT);
            x.row(0, 0);
            due("of another", x.best(1), NOT);
            due("of all now", x.best(-1), 0);
            due("BAD goes ahead", new TenCoins().best(4), BAD);
        });
    }

    private static void belief() {
        edge(14, "A BELIEF more, of a giver of a PEOPLE: its number.", x -> {
            due("the first", x.belief(0), 0);
            due("the second", x.belief(3), 1);
            x.belief(-1);
            due("behind a refused one", x.belief(0), 2);
            x.row(3, 0);
            due("its people has rows", x.off(1, 0, 0), 0);
            due("of another people", x.off(0, 0, 0), told(NOT));
        });
        edge(14, "BAD;", x -> {
            bounds("people", 0, 3, v -> x.belief(v), BAD);
            due("two stand", x.count(3), 2);
        });
        edge(14, "FULL.", x -> {
            for (int k = 0; k < 8; k++) {
                x.belief(0);
            }
            due("full", x.belief(3), FULL);
            due("BAD goes ahead", x.belief(4), BAD);
            due("no ninth", x.hisBest(8), BAD);
        });
    }

    private static void believe() {
        edge(15, "What a giver believes of an OFFER: what it was.", x -> {
            x.belief(0);
            x.belief(0);
            due("at first", x.believe(1, 10, 3), 0);
            due("then", x.believe(1, 10, 3), 3);
            due("the offer beside", x.believe(1, 9, 4), 0);
            due("the first one's", x.believe(0, 10, 5), 0);
            due("it stays", x.believe(1, 10, 0), 3);
        });
        edge(15, "BAD.", x -> {
            due("no belief", x.believe(0, 0, 0), BAD);
            x.belief(0);
            x.belief(0);
            x.believe(0, 5, 7);
            bounds("belief", 0, 1, v -> x.believe(v, 5, 7), BAD);
            bounds("offer", 0, 10, v -> x.believe(0, v, 7), BAD);
            for (int wrong : outside(0, 10)) {
                due("v " + wrong, x.believe(0, 5, wrong), BAD);
            }
            due("as it was", x.believe(0, 5, 7), 7);
        });
    }

    private static void hisBest() {
        edge(16, "HIS BEST.", x -> {
            x.belief(0);
            x.belief(1);
            x.row(1, 0b11111100000);
            x.believe(1, 3, 9);
            due("by what he believes, not by rows", x.hisBest(1), 3);
            due("another's", x.hisBest(0), 0);
        });
        edge(16, "BAD.", x -> {
            due("no belief", x.hisBest(0), BAD);
            x.belief(0);
            x.belief(0);
            bounds("belief", 0, 1, v -> x.hisBest(v), BAD);
        });
    }

    private static void off() {
        edge(17, "OFF (which = 0), COST (1): above, below.", x -> {
            x.belief(0);
            x.row(0, 0b00000100000);
            x.row(0, 0b00000000000);
            x.believe(0, 5, 1);
            x.believe(0, 6, 2);
            fraction("off", x.off(0, 0, 0), x.off(0, 0, 1), 3, 5);
            fraction("cost", x.off(0, 1, 0), x.off(0, 1, 1), 5, 2);
        });
        edge(17, "BAD;", x -> {
            due("no belief", x.off(0, 0, 0), told(BAD));
            x.belief(0);
            x.belief(0);
            x.row(0, 1);
            bounds("belief", 0, 1, v -> x.off(v, 0, 0), told(BAD));
            bounds("which", 0, 1, v -> x.off(0, v, 0), told(BAD));
            bounds("what", 0, 1, v -> x.off(0, 0, v), told(BAD));
        });
        edge(17, "NOT: his PEOPLE has no ROWS.", x -> {
            x.belief(2);
            due("no rows at all", x.off(0, 0, 0), told(NOT));
            x.row(1, 2047);
            due("rows of others", x.off(0, 0, 0), told(NOT));
            due("rows of others, cost", x.off(0, 1, 1), told(NOT));
            due("BAD goes ahead", x.off(0, 2, 0), told(BAD));
            x.row(2, 0);
            due("a row that says no to all", x.off(0, 0, 0), 0);
        });
        edge(17, "(A refusal -x is the least long and x more.)", x -> {
            x.belief(0);
            due("BAD", x.off(1, 0, 0) - Long.MIN_VALUE, 2);
            due("NOT", x.off(0, 0, 0) - Long.MIN_VALUE, 3);
        });
    }
}
