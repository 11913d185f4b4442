/** Sentences about pairs: promises 1 to 9, and the terms that they use. */
final class PairsEdges extends Edges {
    static void run() {
        numbers();
        times();
        counting();
        fractions();
        newObject();
        pair();
        read();
        readStops();
        takeBack();
        asOf();
        many();
        mean();
        refused();
        moves();
    }

    private static void numbers() {
        edge(TERMS, "OFFERS are 0 to 10 coins out of 10.", x -> {
            bounds("pair", 0, 10, offer -> x.pair(0, 0, offer, 1, 0), BAD);
            bounds("refused", 0, 10, offer -> x.refused(0, 0, offer, 0), told(BAD));
            bounds("round", 0, 10, offer -> x.round(offer, 1), BAD);
            x.row(0, 1);
            x.belief(0);
            bounds("taken", 0, 10, offer -> x.taken(0, offer, 0), told(BAD));
            bounds("believe", 0, 10, offer -> x.believe(0, offer, 1), BAD);
        });
        edge(TERMS, "PEOPLES are 0 to 3.", x -> {
            bounds("pair", 0, 3, people -> x.pair(people, 0, 5, 1, 0), BAD);
            bounds("row", 0, 3, people -> x.row(people, 1), BAD);
            bounds("belief", 0, 3, people -> x.belief(people), BAD);
            x.sheet(0, 0, 2);
            bounds("read", 0, 3, people -> x.read(0, people, 0, 0), BAD);
            for (int wrong : outside(0, 3)) {
                due("two, first", x.two(wrong, 0), BAD);
                due("two, second", x.two(0, wrong), BAD);
            }
        });
        edge(TERMS, "KINDS of games: 0 an answer counts; 1 none may refuse; 2 a box gives it, an answer counts; 3 as 0, but for a month's pay.", x -> {
            bounds("pair", 0, 3, kind -> x.pair(0, kind, 5, 1, 0), BAD);
            bounds("many", 0, 3, kind -> x.many(0, kind, 0), BAD);
            due("a no of kind 0", x.pair(1, 0, 5, 0, 0), 2);
            due("a no of kind 1", x.pair(1, 1, 5, 0, 0), BAD);
            due("a no of kind 2", x.pair(1, 2, 5, 0, 0), 3);
            due("a no of kind 3", x.pair(1, 3, 5, 0, 0), 4);
        });
        edge(TERMS, "PAIRS, 60 at most:", x -> {
            for (int k = 0; k < 60; k++) {
                due("pair", x.pair(0, 0, 5, 1, 0), k);
            }
            due("one more", x.pair(0, 0, 5, 1, 0), FULL);
            due("count", x.count(0), 60);
        });
        edge(TERMS, "of a PEOPLE, a KIND, an OFFER, an answer (1 yes, 0 no; of KIND 1 always 1),", x -> {
            bounds("answer", 0, 1, answer -> x.pair(0, 0, 5, answer, 0), BAD);
            due("one of both said no", x.many(0, 0, 1), 1);
            due("kind 1, no", x.pair(0, 1, 5, 0, 0), BAD);
            due("kind 1, yes", x.pair(0, 1, 5, 1, 0), 2);
            due("kind 1 has no noes", x.many(0, 1, 1), 0);
        });
    }

    private static void times() {
        edge(TERMS, "told at a TIME (0 to 999;", x -> {
            for (int wrong : outside(0, 999)) {
                due("pair at " + wrong, x.pair(0, 0, 5, 1, wrong), BAD);
                due("asOf " + wrong, x.asOf(wrong), BAD);
            }
            due("pair at 0", x.pair(0, 0, 5, 1, 0), 0);
            due("pair at 999", x.pair(0, 0, 5, 1, 999), 1);
            due("takeBack at 1000", x.takeBack(0, 1000), BAD);
            due("takeBack at 999", x.takeBack(0, 999), 1);
            x.sheet(0, 0, 2);
            due("read at 1000", x.read(0, 0, 0, 1000), BAD);
            due("read at 999", x.read(0, 0, 0, 999), 1);
        });
        edge(TERMS, "not less than the one told ahead, of taking back, too);", x -> {
            x.pair(0, 0, 5, 1, 7);
            due("less than a pair's", x.pair(0, 0, 5, 1, 6), BAD);
            due("like a pair's", x.pair(0, 0, 5, 1, 7), 1);
            due("taking back ahead of it", x.takeBack(0, 6), BAD);
            due("taking back at it", x.takeBack(0, 7), 1);
            due("later", x.takeBack(1, 9), 1);
            due("less than a taking back's", x.pair(0, 0, 5, 1, 8), BAD);
            due("like a taking back's", x.pair(0, 0, 5, 1, 9), 2);
            due("taking back, less than it", x.takeBack(2, 8), BAD);
        });
        edge(TERMS, "each can be TAKEN BACK at a TIME.", x -> {
            for (int k = 0; k < 60; k++) {
                x.pair(0, 0, 5, 1, 0);
            }
            for (int k = 59; k >= 0; k--) {
                due("takeBack " + k, x.takeBack(k, 1), 1);
                due("those that count", x.count(1), k);
            }
        });
        edge(TERMS, "AS OF a TIME (999 at first)", x -> {
            due("count(7)", x.count(7), 999);
            x.pair(0, 0, 5, 1, 999);
            due("one of 999 counts", x.count(1), 1);
            x.takeBack(0, 999);
            due("taken back at 999", x.count(1), 0);
        });
        edge(TERMS, "those COUNT that were told up to then", x -> {
            x.pair(0, 0, 5, 1, 10);
            x.asOf(9);
            due("a time ahead", x.many(0, 0, 0), 0);
            x.asOf(10);
            due("at the time", x.many(0, 0, 0), 1);
            x.asOf(11);
            due("a time behind", x.many(0, 0, 0), 1);
        });
        edge(TERMS, "and not taken back up to then.", x -> {
            x.pair(0, 0, 5, 1, 10);
            x.takeBack(0, 20);
            int[] asOf = {9, 10, 19, 20, 21, 999};
            int[] counting = {0, 1, 1, 0, 0, 0};
            for (int k = 0; k < asOf.length; k++) {
                x.asOf(asOf[k]);
                due("as of " + asOf[k], x.many(0, 0, 0), counting[k]);
            }
            x.pair(0, 0, 5, 1, 30);
            x.takeBack(1, 30);
            x.asOf(30);
            due("told and taken back at once", x.many(0, 0, 0), 0);
        });
    }

    private static void counting() {
        edge(TERMS, "Of a PEOPLE (NONE: of all) and a KIND: how many PAIRS COUNT, how many said no;", x -> {
            tell(x, 0, 0, 0, 1, 2);
            tell(x, 3, 0, 1, 3);
            tell(x, 3, 3, 0, 3);
            int[] many = {3, 2, 0, 0, 1};
            int[] noes = {2, 2, 0, 0, 0};
            for (int people = -1; people < 4; people++) {
                due("many of " + people, x.many(people, 0, 0), many[people + 1]);
                due("noes of " + people, x.many(people, 0, 1), noes[people + 1]);
            }
            due("of another kind", x.many(-1, 3, 0), 1);
        });
        edge(TERMS, "MEAN of OFFERS;", x -> {
            tell(x, 1, 0, 0, 0, 10);
            tell(x, 1, 0, 1, 10);
            fraction("noes, too, are in it", x.mean(1, 0, 0), x.mean(1, 0, 1), 20, 3);
        });
        edge(TERMS, "MIDDLE one (in order; of both the lesser);", x -> {
            tell(x, 0, 0, 1, 10);
            due("of one", x.many(0, 0, 2), 10);
            tell(x, 0, 0, 1, 0);
            due("of two the lesser", x.many(0, 0, 2), 0);
            tell(x, 0, 0, 1, 7);
            due("of three that in the middle", x.many(0, 0, 2), 7);
            tell(x, 0, 0, 1, 6);
            due("of four the lesser of both", x.many(0, 0, 2), 6);
            tell(x, 0, 0, 1, 10, 10, 10);
            due("of seven", x.many(0, 0, 2), 10);
        });
        edge(TERMS, "REFUSED share of an OFFER.", x -> {
            tell(x, 0, 0, 0, 4, 4);
            tell(x, 0, 0, 1, 4, 5);
            tell(x, 1, 0, 1, 4);
            fraction("of 4", x.refused(0, 0, 4, 0), x.refused(0, 0, 4, 1), 2, 3);
            fraction("of 4, by all", x.refused(-1, 0, 4, 0), x.refused(-1, 0, 4, 1), 1, 2);
            fraction("of 5", x.refused(0, 0, 5, 0), x.refused(0, 0, 5, 1), 0, 1);
        });
    }

    private static void fractions() {
        edge(TERMS, "FRACTIONS are told in lowest terms, above and below (0 by 1).", x -> {
            tell(x, 0, 0, 1, 0, 0, 0);
            fraction("nothing", x.mean(0, 0, 0), x.mean(0, 0, 1), 0, 1);
            tell(x, 1, 0, 1, 6, 2);
            fraction("a whole number", x.mean(1, 0, 0), x.mean(1, 0, 1), 4, 1);
            tell(x, 2, 0, 1, 9, 9, 9, 3);
            fraction("lowest terms", x.mean(2, 0, 0), x.mean(2, 0, 1), 15, 2);
            tell(x, 2, 1, 1, 10, 10);
            fraction("below nothing, the sign is above", x.moves(2, 0, 0), x.moves(2, 0, 1), -5, 2);
            tell(x, 1, 1, 1, 4);
            fraction("nothing by unlike ones", x.moves(1, 0, 0), x.moves(1, 0, 1), 0, 1);
        });
        edge(TERMS, "FEAR in a PEOPLE: MEAN of KIND 0 less MEAN of KIND 1;", x -> {
            tell(x, 0, 0, 1, 5, 4);
            tell(x, 0, 1, 1, 1, 1, 2);
            tell(x, 0, 2, 1, 9);
            tell(x, 0, 3, 1, 10);
            fraction("fear", x.moves(0, 0, 0), x.moves(0, 0, 1), 19, 6);
        });
        edge(TERMS, "MONTH: MEAN of KIND 3 less that of KIND 0;", x -> {
            tell(x, 0, 0, 1, 5, 4);
            tell(x, 0, 1, 1, 9);
            tell(x, 0, 2, 1, 9);
            tell(x, 0, 3, 1, 4, 3, 4);
            fraction("month", x.moves(0, 1, 0), x.moves(0, 1, 1), -5, 6);
        });
        edge(TERMS, "BOX: share of noes of KIND 0 less that of KIND 2. FRACTIONS.", x -> {
            tell(x, 0, 0, 0, 5, 4);
            tell(x, 0, 0, 1, 6);
            tell(x, 0, 2, 0, 9);
            tell(x, 0, 2, 1, 9, 9, 9);
            tell(x, 0, 3, 0, 9);
            fraction("box", x.moves(0, 2, 0), x.moves(0, 2, 1), 5, 12);
            tell(x, 1, 0, 1, 5);
            tell(x, 1, 2, 0, 5);
            fraction("the other way", x.moves(1, 2, 0), x.moves(1, 2, 1), -1, 1);
        });
    }

    private static void newObject() {
        edge(1, "Nothing is told;", x -> {
            for (int what = 0; what < 7; what++) {
                due("count " + what, x.count(what), 0);
            }
            due("as of", x.count(7), 999);
            due("no finding", x.count(8), 0);
            due("fault", x.fault(), 0);
            due("no pair", x.takeBack(0, 0), BAD);
            due("no row", x.line(0, 0), BAD);
            due("no belief", x.hisBest(0), BAD);
            due("no thing", x.goes(0), -99);
            due("got", x.learnt(3), 0);
            due("any time may be the first", x.pair(0, 0, 5, 1, 0), 0);
            due("another object is another", new TenCoins().count(0), 0);
        });
        edge(1, "all SHEETS are LOST.", x -> {
            for (int s = 0; s < 4; s++) {
                due("lose", x.lose(s), NULL);
                due("put", x.put(s, 0, 0, 1), NULL);
                due("read", x.read(s, 0, 0, 0), NULL);
                due("write", x.write(0, 0, s), NULL);
                due("copy", x.copy(s, 0, s, 0, 0), NULL);
            }
        });
    }

    private static void pair() {
        edge(2, "A PAIR more: its number.", x -> {
            due("the first", x.pair(3, 2, 0, 0, 0), 0);
            due("the second", x.pair(3, 2, 0, 0, 0), 1);
            x.takeBack(0, 0);
            due("behind one taken back", x.pair(3, 2, 0, 0, 0), 2);
            x.asOf(0);
            due("behind the time as of which", x.pair(3, 2, 0, 0, 5), 3);
            x.pair(3, 2, 11, 0, 5);
            due("behind a refused one", x.pair(3, 2, 0, 0, 5), 4);
        });
        edge(2, "BAD:", x -> {
            bounds("people", 0, 3, v -> x.pair(v, 0, 5, 1, 0), BAD);
            bounds("kind", 0, 3, v -> x.pair(0, v, 5, 1, 0), BAD);
            bounds("offer", 0, 10, v -> x.pair(0, 0, v, 1, 0), BAD);
            bounds("answer", 0, 1, v -> x.pair(0, 0, 5, v, 0), BAD);
            bounds("time", 0, 999, v -> x.pair(0, 0, 5, 1, v), BAD);
        });
        edge(2, "also a no of KIND 1,", x -> {
            due("no", x.pair(2, 1, 5, 0, 0), BAD);
            due("nothing was told", x.count(0), 0);
            due("yes", x.pair(2, 1, 5, 1, 0), 0);
        });
        edge(2, "a TIME less than the one before;", x -> {
            x.pair(0, 0, 5, 1, 500);
            due("499", x.pair(0, 0, 5, 1, 499), BAD);
            due("0", x.pair(0, 0, 5, 1, 0), BAD);
            due("500", x.pair(0, 0, 5, 1, 500), 1);
            x.asOf(3);
            due("as of binds nothing", x.pair(0, 0, 5, 1, 4), BAD);
            x.takeBack(0, 600);
            due("599", x.pair(0, 0, 5, 1, 599), BAD);
            due("600", x.pair(0, 0, 5, 1, 600), 2);
        });
        edge(2, "FULL.", x -> {
            for (int k = 0; k < 60; k++) {
                x.pair(k % 4, k % 4, 5, 1, 1);
            }
            for (int people = 0; people < 4; people++) {
                due("full for all", x.pair(people, people, 5, 1, 1), FULL);
            }
            x.takeBack(0, 1);
            due("one taken back makes no room", x.pair(0, 0, 5, 1, 1), FULL);
            due("BAD goes ahead", x.pair(0, 0, 5, 1, 0), BAD);
            due("a no of kind 1 goes ahead", x.pair(0, 1, 5, 0, 1), BAD);
            due("a late refused one", x.pair(0, 0, 5, 1, 900), FULL);
            due("tells no time", x.takeBack(1, 1), 1);
        });
    }

    private static void read() {
        edge(3, "PAIRS of a PEOPLE and a KIND at a TIME by a SHEET:", x -> {
            fill(x, 3, 0, 6, 0);
            due("read", x.read(3, 2, 3, 40), 1);
            due("people and kind", x.many(2, 3, 0), 1);
            x.asOf(39);
            due("told later", x.many(2, 3, 0), 0);
            x.asOf(40);
            due("told then", x.many(2, 3, 0), 1);
            due("its time binds", x.pair(0, 0, 5, 1, 39), BAD);
            items("the sheet stays", x, 3, 0, 6, 0);
        });
        edge(3, "its items, two for each (OFFER, answer),", x -> {
            fill(x, 0, 2, 10, 0, 0, 1, 1, 1);
            due("three", x.read(0, 0, 0, 0), 3);
            due("offers", x.mean(0, 0, 0), 11);
            due("noes", x.many(0, 0, 1), 1);
            fraction("who said no", x.refused(0, 0, 10, 0), x.refused(0, 0, 10, 1), 1, 1);
        });
        edge(3, "as many as are whole,", x -> {
            int before = 0;
            int[] sizes = {0, 1, 2, 3, 4, 47, 48};
            int[] whole = {0, 0, 1, 1, 2, 23, 24};
            for (int k = 0; k < sizes.length; k++) {
                x.sheet(1, 1, sizes[k]);
                due("of " + sizes[k], x.read(1, 0, 0, 0), whole[k]);
                before += whole[k];
                due("told so far", x.count(0), before);
            }
        });
        edge(3, "one by one as pair() takes them,", x -> {
            fill(x, 0, 0, 3, 1, 4, 0);
            x.read(0, 1, 0, 5);
            due("each can be taken back", x.takeBack(1, 5), 1);
            due("the other stays", x.many(1, 0, 2), 3);
        });
        edge(3, "behind those that there are,", x -> {
            x.pair(0, 0, 9, 1, 0);
            fill(x, 0, 0, 1, 1, 2, 1);
            x.read(0, 0, 0, 0);
            due("then a number more", x.pair(0, 0, 8, 1, 0), 3);
            x.sheet(1, 0, 4);
            x.write(0, 0, 1);
            items("in order", x, 1, 0, 9, 1, 2, 8);
        });
    }

    private static void readStops() {
        edge(3, "up to the first that it refuses: how many it took.", x -> {
            int[][] refused = {{11, 1}, {-1, 1}, {5, 2}, {5, -1}, {127, 1}, {-128, 0}};
            for (int[] wrong : refused) {
                fill(x, 0, 0, 5, 1, wrong[0], wrong[1], 6, 1);
                due("one ahead of it", x.read(0, 0, 0, 0), 1);
            }
            due("those stay", x.count(0), refused.length);
            fill(x, 0, 2, 4, 1, 4, 0, 4, 1);
            due("a no of kind 1", x.read(0, 0, 1, 0), 1);
            fill(x, 0, 2, 4, 0, 4, 1);
            due("the first one", x.read(0, 0, 1, 0), 0);
            x.sheet(0, 0, 48);
            x.read(0, 0, 0, 0);
            x.read(0, 0, 0, 0);
            due("up to sixty", x.read(0, 0, 0, 0), 60 - 48 - refused.length - 1);
            due("full", x.read(0, 0, 0, 0), 0);
            due("no finding", x.count(8), 0);
        });
        edge(3, "BAD: also a TIME less than the one before;", x -> {
            x.sheet(0, 0, 2);
            bounds("sheet", 0, 3, v -> x.read(v, 0, 0, 0), BAD);
            bounds("people", 0, 3, v -> x.read(0, v, 0, 0), BAD);
            bounds("kind", 0, 3, v -> x.read(0, 0, v, 0), BAD);
            for (int wrong : outside(0, 999)) {
                due("time", x.read(0, 0, 0, wrong), BAD);
            }
            x.pair(0, 0, 5, 1, 10);
            due("9", x.read(0, 0, 0, 9), BAD);
            due("10", x.read(0, 0, 0, 10), 1);
            x.takeBack(0, 20);
            due("19", x.read(0, 0, 0, 19), BAD);
            due("an empty one at 19", new int[] {x.sheet(0, 0, 0), x.read(0, 0, 0, 19)}[1], BAD);
            due("20", x.read(0, 0, 0, 20), 0);
        });
        edge(3, "NULL.", x -> {
            due("lost", x.read(2, 0, 0, 0), NULL);
            due("noted", x.count(8), 1);
            x.pair(0, 0, 5, 1, 10);
            due("BAD people goes ahead", x.read(2, -1, 0, 10), BAD);
            due("BAD kind goes ahead", x.read(2, 0, 4, 10), BAD);
            due("BAD time goes ahead", x.read(2, 0, 0, 9), BAD);
            x.sheet(2, 0, 2);
            x.lose(2);
            due("lost again", x.read(2, 0, 0, 10), NULL);
        });
    }

    private static void takeBack() {
        edge(4, "A PAIR is TAKEN BACK at a TIME: 1.", x -> {
            x.pair(0, 0, 5, 1, 1);
            x.pair(0, 0, 7, 1, 2);
            due("the first", x.takeBack(0, 3), 1);
            due("the other counts", x.many(0, 0, 2), 7);
            due("it is told still", x.count(0), 2);
            x.asOf(2);
            due("both counted then", x.many(0, 0, 0), 2);
        });
        edge(4, "BAD: likewise;", x -> {
            due("no pair at all", x.takeBack(0, 0), BAD);
            x.pair(0, 0, 5, 1, 10);
            x.pair(0, 0, 5, 1, 10);
            for (int wrong : outside(0, 1)) {
                due("pair " + wrong, x.takeBack(wrong, 10), BAD);
            }
            for (int wrong : outside(0, 999)) {
                due("time " + wrong, x.takeBack(0, wrong), BAD);
            }
            due("a time less", x.takeBack(0, 9), BAD);
            due("both count still", x.count(1), 2);
            due("the last one", x.takeBack(1, 10), 1);
            due("a later time", x.takeBack(0, 11), 1);
            due("then that binds", x.pair(0, 0, 5, 1, 10), BAD);
        });
        edge(4, "NOT: it is already.", x -> {
            x.pair(0, 0, 5, 1, 10);
            x.takeBack(0, 20);
            due("at the same time", x.takeBack(0, 20), NOT);
            due("later", x.takeBack(0, 30), NOT);
            due("BAD goes ahead", x.takeBack(0, 19), BAD);
            x.asOf(15);
            due("though it counts as of then", x.takeBack(0, 40), NOT);
            due("it tells no time", x.pair(0, 0, 5, 1, 20), 1);
            x.asOf(20);
            due("the first time holds", x.count(1), 1);
        });
    }

    private static void asOf() {
        edge(5, "AS OF: what it was.", x -> {
            due("at first", x.asOf(0), 999);
            due("then", x.asOf(999), 0);
            due("the same again", x.asOf(999), 999);
            due("back", x.asOf(5), 999);
            due("count(7)", x.count(7), 5);
        });
        edge(5, "BAD.", x -> {
            x.asOf(77);
            for (int wrong : outside(0, 999)) {
                due("asOf " + wrong, x.asOf(wrong), BAD);
            }
            due("it stays", x.count(7), 77);
            x.pair(0, 0, 5, 1, 500);
            due("less than what was told is fine", x.asOf(3), 77);
        });
    }

    private static void many() {
        edge(6, "How many COUNT (what = 0),", x -> {
            due("none", x.many(-1, 0, 0), 0);
            tell(x, 0, 0, 1, 5, 5);
            x.takeBack(0, 1);
            due("one", x.many(0, 0, 0), 1);
        });
        edge(6, "said no (1),", x -> {
            due("none", x.many(-1, 0, 1), 0);
            tell(x, 0, 0, 0, 5, 5, 5);
            tell(x, 0, 0, 1, 5);
            x.takeBack(0, 1);
            due("two", x.many(0, 0, 1), 2);
            due("of all", x.many(-1, 0, 1), 2);
        });
        edge(6, "the MIDDLE (2; NOT: none COUNT).", x -> {
            due("none told", x.many(0, 0, 2), NOT);
            due("none told by all", x.many(-1, 0, 2), NOT);
            tell(x, 0, 0, 1, 0);
            due("nought is a middle", x.many(0, 0, 2), 0);
            due("another people", x.many(1, 0, 2), NOT);
            due("another kind", x.many(0, 3, 2), NOT);
            x.takeBack(0, 0);
            due("taken back", x.many(0, 0, 2), NOT);
            x.pair(0, 0, 8, 1, 5);
            x.asOf(4);
            due("not told yet", x.many(0, 0, 2), NOT);
        });
        edge(6, "BAD.", x -> {
            bounds("people", -1, 3, v -> x.many(v, 0, 0), BAD);
            bounds("kind", 0, 3, v -> x.many(0, v, 0), BAD);
            bounds("what", 0, 2, v -> x.many(0, 0, v), BAD);
            due("BAD goes ahead of NOT", x.many(-2, 0, 2), BAD);
        });
    }

    private static void mean() {
        edge(7, "MEAN: above, below.", x -> {
            tell(x, 0, 2, 0, 10, 9, 9, 8);
            tell(x, 1, 2, 1, 1);
            fraction("of one", x.mean(0, 2, 0), x.mean(0, 2, 1), 9, 1);
            fraction("of all", x.mean(-1, 2, 0), x.mean(-1, 2, 1), 37, 5);
            for (int k = 0; k < 55; k++) {
                x.pair(2, 2, 10, 1, 0);
            }
            fraction("of sixty", x.mean(-1, 2, 0), x.mean(-1, 2, 1), 587, 60);
        });
        edge(7, "BAD;", x -> {
            tell(x, 0, 0, 1, 5);
            bounds("people", -1, 3, v -> x.mean(v, 0, 0), told(BAD));
            bounds("kind", 0, 3, v -> x.mean(0, v, 0), told(BAD));
            bounds("what", 0, 1, v -> x.mean(0, 0, v), told(BAD));
            due("BAD goes ahead of NOT", x.mean(1, 0, 2), told(BAD));
        });
        edge(7, "NOT: none COUNT.", x -> {
            due("none told", x.mean(0, 0, 0), told(NOT));
            due("none told, below", x.mean(-1, 0, 1), told(NOT));
            tell(x, 0, 0, 1, 0);
            due("another people", x.mean(1, 0, 0), told(NOT));
            due("another kind", x.mean(0, 2, 0), told(NOT));
            x.takeBack(0, 0);
            due("taken back", x.mean(0, 0, 0), told(NOT));
        });
        edge(7, "(A refusal -x is the least long and x more.)", x -> {
            due("BAD", x.mean(0, 0, 2) - Long.MIN_VALUE, 2);
            due("NOT", x.mean(0, 0, 1) - Long.MIN_VALUE, 3);
        });
    }

    private static void refused() {
        edge(8, "REFUSED: above, below.", x -> {
            tell(x, 0, 3, 0, 10, 10, 0);
            tell(x, 0, 3, 1, 10, 10);
            fraction("half", x.refused(0, 3, 10, 0), x.refused(0, 3, 10, 1), 1, 2);
            fraction("all of one", x.refused(0, 3, 0, 0), x.refused(0, 3, 0, 1), 1, 1);
            x.takeBack(0, 0);
            fraction("those that count", x.refused(0, 3, 10, 0), x.refused(0, 3, 10, 1), 1, 3);
        });
        edge(8, "BAD;", x -> {
            tell(x, 0, 0, 1, 5);
            bounds("people", -1, 3, v -> x.refused(v, 0, 5, 0), told(BAD));
            bounds("kind", 0, 3, v -> x.refused(0, v, 5, 0), told(BAD));
            bounds("offer", 0, 10, v -> x.refused(0, 0, v, 0), told(BAD));
            bounds("what", 0, 1, v -> x.refused(0, 0, 5, v), told(BAD));
            due("BAD goes ahead of NOT", x.refused(0, 0, 4, 2), told(BAD));
        });
        edge(8, "NOT: nobody was offered that.", x -> {
            tell(x, 0, 0, 0, 5);
            due("less", x.refused(0, 0, 4, 0), told(NOT));
            due("more", x.refused(0, 0, 6, 1), told(NOT));
            due("another people", x.refused(1, 0, 5, 0), told(NOT));
            due("another kind", x.refused(0, 2, 5, 0), told(NOT));
            x.takeBack(0, 3);
            due("taken back", x.refused(0, 0, 5, 0), told(NOT));
            x.asOf(2);
            due("as of then", x.refused(0, 0, 5, 0), 1);
        });
        edge(8, "(A refusal -x is the least long and x more.)", x -> {
            due("BAD", x.refused(0, 0, 11, 0) - Long.MIN_VALUE, 2);
            due("NOT", x.refused(0, 0, 10, 0) - Long.MIN_VALUE, 3);
        });
    }

    private static void moves() {
        edge(9, "FEAR (which = 0), MONTH (1), BOX (2): above, below.", x -> {
            tell(x, 2, 0, 0, 4);
            tell(x, 2, 0, 1, 5);
            tell(x, 2, 1, 1, 1);
            tell(x, 2, 2, 0, 1, 1);
            tell(x, 2, 3, 1, 6);
            fraction("fear", x.moves(2, 0, 0), x.moves(2, 0, 1), 7, 2);
            fraction("month", x.moves(2, 1, 0), x.moves(2, 1, 1), 3, 2);
            fraction("box", x.moves(2, 2, 0), x.moves(2, 2, 1), -1, 2);
            fraction("of all", x.moves(-1, 0, 0), x.moves(-1, 0, 1), 7, 2);
        });
        edge(9, "BAD;", x -> {
            tell(x, 0, 0, 1, 5);
            tell(x, 0, 1, 1, 5);
            tell(x, 0, 2, 1, 5);
            bounds("people", -1, 3, v -> x.moves(v, 0, 0), told(BAD));
            bounds("which", 0, 2, v -> x.moves(0, v, 0), told(BAD));
            bounds("what", 0, 1, v -> x.moves(0, 0, v), told(BAD));
            due("BAD goes ahead of NOT", x.moves(1, 3, 0), told(BAD));
        });
        edge(9, "NOT: one of both has none.", x -> {
            int[] others = {1, 3, 2};
            for (int which = 0; which < 3; which++) {
                due("both have none", x.moves(which, which, 0), told(NOT));
                tell(x, which, 0, 1, 5);
                due("the other has none", x.moves(which, which, 0), told(NOT));
                tell(x, which, others[which], 1, 5);
                fraction("both have some", x.moves(which, which, 0), x.moves(which, which, 1), 0, 1);
                tell(x, 3, others[which], 1, 5);
                due("kind 0 has none", x.moves(3, which, 1), told(NOT));
            }
            x.takeBack(0, 0);
            due("taken back", x.moves(0, 0, 0), told(NOT));
        });
        edge(9, "(A refusal -x is the least long and x more.)", x -> {
            due("BAD", x.moves(0, 3, 0) - Long.MIN_VALUE, 2);
            due("NOT", x.moves(0, 0, 0) - Long.MIN_VALUE, 3);
        });
    }
}
