/** Sentences about rounds: promises 30 to 33, and the terms that they use. */
final class RoundsEdges extends Edges {
    static void run() {
        terms();
        gotAndCould();
        round();
        forget();
        misses();
        learnt();
    }

    private static void rounds(TenCoins x, int... offersAndAnswers) {
        x.forget();
        for (int k = 0; k < offersAndAnswers.length; k += 2) {
            x.round(offersAndAnswers[k], offersAndAnswers[k + 1]);
        }
    }

    private static void law(TenCoins x, int u, int d, int missed) {
        due("learnt u", x.learnt(0), u);
        due("learnt d", x.learnt(1), d);
        due("its misses", x.learnt(2), missed);
    }

    private static void terms() {
        edge(TERMS, "ROUNDS, 24 at most, of one giver: an OFFER and an answer, one after the other.", x -> {
            for (int k = 1; k <= 24; k++) {
                due("round", x.round(k % 11, k % 2), k);
            }
            due("one more", x.round(0, 0), FULL);
            due("count", x.count(6), 24);
            bounds("offer", 0, 10, v -> x.round(v, 1), BAD);
            bounds("answer", 0, 1, v -> x.round(5, v), BAD);
        });
        edge(TERMS, "A LAW (u, d; 0 to 4 each):", x -> {
            bounds("u", 0, 4, v -> x.misses(v, 0), BAD);
            bounds("d", 0, 4, v -> x.misses(0, v), BAD);
            rounds(x, 0, 0, 10, 0);
            law(x, 4, 0, 6);
            rounds(x, 10, 1, 0, 0);
            law(x, 0, 4, 6);
        });
        edge(TERMS, "the next OFFER is u more behind a no, d less behind a yes,", x -> {
            rounds(x, 5, 0, 7, 0);
            due("behind a no", x.misses(2, 4), 0);
            due("behind a no, by another", x.misses(4, 2), 2);
            rounds(x, 5, 1, 3, 0);
            due("behind a yes", x.misses(4, 2), 0);
            due("behind a yes, by another", x.misses(2, 4), 2);
        });
        edge(TERMS, "0 at least, 10 at most.", x -> {
            rounds(x, 1, 1, 0, 1);
            due("nought at least", x.misses(0, 4), 0);
            due("nought just so", x.misses(0, 1), 0);
            rounds(x, 0, 1, 0, 1);
            due("from nought", x.misses(0, 4), 0);
            rounds(x, 9, 0, 10, 1);
            due("ten at most", x.misses(4, 0), 0);
            due("ten just so", x.misses(1, 0), 0);
            rounds(x, 10, 0, 10, 1);
            due("from ten", x.misses(4, 0), 0);
            rounds(x, 9, 0, 0, 0);
            due("off from ten", x.misses(4, 0), 10);
            rounds(x, 1, 1, 10, 0);
            due("off from nought", x.misses(0, 4), 10);
        });
        edge(TERMS, "MISSES of a LAW: by how much all OFFERS but the first are off from what it says of the one ahead, together.", x -> {
            due("no rounds", x.misses(0, 0), 0);
            rounds(x, 10, 0);
            due("the first alone", x.misses(4, 4), 0);
            rounds(x, 5, 0, 8, 1, 6, 1, 1, 0);
            due("too much, too little: 2, 1, 4", x.misses(1, 1), 2 + 1 + 4);
            due("by what was offered, not by what it said", x.misses(3, 2), 0 + 0 + 3);
            for (int k = 4; k < 24; k++) {
                x.round(k % 2 == 0 ? 0 : 10, 0);
            }
            due("of 24", x.misses(0, 0), 3 + 2 + 5 + 1 + 19 * 10);
        });
        edge(TERMS, "LEARNT: the LAW with the fewest, of like ones the least u, then the least d.", x -> {
            rounds(x, 5, 0, 8, 1, 6, 1);
            law(x, 3, 2, 0);
            rounds(x, 9, 0, 10, 0);
            law(x, 1, 0, 0);
            rounds(x, 1, 1, 0, 1);
            law(x, 0, 1, 0);
            rounds(x, 5, 0, 5, 1);
            law(x, 0, 0, 0);
            rounds(x, 5, 0, 6, 0, 8, 0);
            law(x, 1, 0, 1);
            rounds(x, 5, 1, 4, 1, 2, 0);
            law(x, 0, 1, 1);
            rounds(x, 5, 0, 8, 1, 5, 1);
            law(x, 3, 3, 0);
            rounds(x, 5, 0, 4, 1);
            law(x, 0, 0, 1);
            rounds(x, 5, 1, 6, 1);
            law(x, 0, 0, 1);
        });
    }

    private static void gotAndCould() {
        edge(TERMS, "GOT: coins that the giver has of all ROUNDS;", x -> {
            due("no rounds", x.learnt(3), 0);
            rounds(x, 0, 0, 10, 1);
            due("refused, and all given", x.learnt(3), 0);
            rounds(x, 0, 1, 9, 1, 4, 0);
            due("ten and one", x.learnt(3), 11);
            x.forget();
            for (int k = 0; k < 24; k++) {
                x.round(0, 1);
            }
            due("240", x.learnt(3), 240);
        });
        edge(TERMS, "COULD: the most that one OFFER, the same each time, could have brought, if any answer is as it was to OFFERS as great or less that were taken, and no else (each ROUND by itself).", x -> {
            due("no rounds", x.learnt(4), 0);
            rounds(x, 0, 0, 5, 0);
            due("none were taken", x.learnt(4), 0);
            rounds(x, 10, 1);
            due("ten brings nothing", x.learnt(4), 0);
            rounds(x, 6, 1);
            due("the same, taken", x.learnt(4), 4);
            rounds(x, 6, 1, 2, 1);
            due("two once, or six twice", x.learnt(4), 8);
            rounds(x, 6, 1, 3, 1);
            due("six twice", x.learnt(4), 8);
            rounds(x, 5, 1, 5, 0, 8, 0);
            due("a refused one stays refused", x.learnt(4), 5);
            rounds(x, 9, 1, 9, 1, 0, 1);
            due("nought once", x.learnt(4), 10);
            x.forget();
            for (int k = 0; k < 24; k++) {
                x.round(0, 1);
            }
            due("240", x.learnt(4), 240);
        });
    }

    private static void round() {
        edge(30, "A ROUND more: how many.", x -> {
            due("one", x.round(0, 0), 1);
            due("two", x.round(10, 1), 2);
            x.round(11, 1);
            due("behind a refused one", x.round(5, 1), 3);
        });
        edge(30, "BAD;", x -> {
            bounds("offer", 0, 10, v -> x.round(v, 1), BAD);
            bounds("answer", 0, 1, v -> x.round(5, v), BAD);
            due("four stand", x.count(6), 4);
        });
        edge(30, "FULL.", x -> {
            for (int k = 0; k < 24; k++) {
                x.round(5, 1);
            }
            due("full", x.round(5, 1), FULL);
            due("BAD offer goes ahead", x.round(11, 1), BAD);
            due("BAD answer goes ahead", x.round(5, 2), BAD);
            due("got by 24", x.learnt(3), 120);
        });
    }

    private static void forget() {
        edge(31, "ROUNDS are forgotten: how many there were.", x -> {
            due("none", x.forget(), 0);
            x.round(5, 0);
            x.round(6, 0);
            due("two", x.forget(), 2);
            due("none then", x.forget(), 0);
            due("count", x.count(6), 0);
            due("got", x.learnt(3), 0);
            due("no law", x.learnt(0), NOT);
            due("misses", x.misses(0, 0), 0);
            for (int k = 1; k <= 24; k++) {
                due("anew", x.round(5, 1), k);
            }
            due("24", x.forget(), 24);
            due("room again", x.round(9, 1), 1);
            due("the old ones bring nothing", x.learnt(4), 1);
        });
    }

    private static void misses() {
        edge(32, "MISSES of a LAW.", x -> {
            rounds(x, 2, 1, 3, 0, 3, 1);
            due("still", x.misses(0, 0), 1);
            due("the most", x.misses(4, 4), 3 + 4);
        });
        edge(32, "BAD.", x -> {
            rounds(x, 2, 1, 3, 0, 3, 1);
            bounds("u", 0, 4, v -> x.misses(v, 0), BAD);
            bounds("d", 0, 4, v -> x.misses(0, v), BAD);
            due("without rounds, too", new TenCoins().misses(5, 0), BAD);
        });
    }

    private static void learnt() {
        edge(33, "LEARNT: u (what = 0), d (1), its MISSES (2);", x -> {
            rounds(x, 5, 0, 9, 1, 8, 1, 6, 0);
            law(x, 4, 1, 1);
        });
        edge(33, "GOT (3), COULD (4).", x -> {
            rounds(x, 4, 1, 6, 1, 5, 0);
            due("got", x.learnt(3), 10);
            due("could", x.learnt(4), 8);
        });
        edge(33, "BAD;", x -> {
            bounds("what", 0, 4, v -> x.learnt(v), BAD);
            rounds(x, 5, 0, 5, 0);
            bounds("what, of two rounds", 0, 4, v -> x.learnt(v), BAD);
        });
        edge(33, "NOT: fewer than two ROUNDS (0 to 2).", x -> {
            for (int what = 0; what < 3; what++) {
                due("none", x.learnt(what), NOT);
            }
            x.round(3, 1);
            for (int what = 0; what < 3; what++) {
                due("one", x.learnt(what), NOT);
            }
            due("got of one", x.learnt(3), 7);
            due("could of one", x.learnt(4), 7);
            x.round(3, 1);
            law(x, 0, 0, 0);
        });
    }
}
