/** Sentences about refusals and about an object's last calls, and promise 41. */
final class RefusalsEdges extends Edges {
    static void run() {
        order();
        longs();
        changeNothing();
        fullChangesNothing();
        manyCalls();
        digest();
        digestOfParts();
    }

    private static void order() {
        edge(TERMS, "Refusals, the first that fits, in the order told at each act:", x -> {
            due("put: BAD, NULL", x.put(0, 3, 0, 0), BAD);
            due("put: NULL, CAST, INDEX", x.put(0, 2, 9, 0), NULL);
            x.sheet(0, 0, 2);
            due("put: CAST, INDEX", x.put(0, 2, 9, 0), CAST);
            due("copy: NULL, INDEX", x.copy(0, -1, 1, 0, 0), NULL);
            x.sheet(1, 1, 2);
            due("copy: STORE, INDEX", x.copy(0, -1, 1, 0, 0), STORE);
            due("sheet: BAD, SIZE", x.sheet(0, 3, -1), BAD);
            for (int k = 0; k < 60; k++) {
                x.pair(0, 0, 5, 1, 5);
            }
            due("pair: BAD, FULL", x.pair(0, 0, 5, 1, 4), BAD);
            due("two: NOT, FULL", x.two(0, 1), NOT);
            x.takeBack(0, 6);
            due("takeBack: BAD, NOT", x.takeBack(0, 5), BAD);
        });
        edge(TERMS, "BAD -2 (a number not as told, no such thing), NULL, NOT -3 (as told), FULL -4, other FINDINGS.", x -> {
            due("BAD", TenCoins.BAD, -2);
            due("NOT", TenCoins.NOT, -3);
            due("FULL", TenCoins.FULL, -4);
            due("NONE", TenCoins.NONE, -1);
            due("a number not as told", x.pair(0, 0, 11, 1, 0), -2);
            due("no such thing", x.hisBest(0), -2);
            due("NULL", x.lose(0), -11);
            due("NOT", x.best(0), -3);
            for (int k = 0; k < 6; k++) {
                x.thing(1, 1, 1, 1);
            }
            due("FULL", x.thing(1, 1, 1, 1), -4);
            due("another finding", x.sheet(0, 0, -1), -15);
        });
    }

    private static void longs() {
        edge(TERMS, "Where the answer is a long, a refusal -x is the least long and x more.", x -> {
            long bad = -9223372036854775806L;
            long not = -9223372036854775805L;
            long full = -9223372036854775804L;
            x.belief(0);
            long[] bads = {x.mean(0, 0, 2), x.refused(0, 0, 0, 2), x.moves(0, 0, 2), x.taken(0, 0, 2), x.off(0, 0, 2),
                x.odds(0, 0, 2)};
            for (long answer : bads) {
                due("BAD", answer, bad);
            }
            long[] nots = {x.mean(0, 0, 0), x.refused(0, 0, 0, 0), x.moves(0, 0, 0), x.taken(0, 0, 0), x.off(0, 0, 0)};
            for (long answer : nots) {
                due("NOT", answer, not);
            }
            for (int k = 0; k < 15; k++) {
                x.pair(0, 0, 5, 1, 0);
            }
            due("FULL", x.odds(0, 0, 0), full);
        });
    }

    private static void changeNothing() {
        edge(TERMS, "They change nothing (FINDINGS but count() 8).", x -> {
            Test made = States::some;
            keeps("a wrong pair", made, y -> y.pair(0, 0, 11, 1, 30), 5);
            keeps("a no of kind 1", made, y -> y.pair(0, 1, 5, 0, 30), 5);
            keeps("an early pair", made, y -> y.pair(0, 0, 5, 1, 8), 5);
            keeps("a wrong read", made, y -> y.read(1, 4, 0, 30), 5);
            keeps("an early read", made, y -> y.read(1, 0, 0, 8), 5);
            keeps("a lost read", made, y -> y.read(3, 0, 0, 30), 1);
            keeps("a read that takes none", made, y -> y.read(0, 0, 1, 30), 5);
            keeps("a wrong takeBack", made, y -> y.takeBack(8, 30), 5);
            keeps("an early takeBack", made, y -> y.takeBack(0, 8), 5);
            keeps("a second takeBack", made, y -> y.takeBack(3, 30), 5);
            keeps("a wrong asOf", made, y -> y.asOf(1000), 5);
            keeps("wrong questions", made, RefusalsEdges::wrongQuestions, 5);
            keeps("a wrong row", made, y -> y.row(0, 2048), 5);
            keeps("a wrong belief", made, y -> y.belief(4), 5);
            keeps("a wrong believe", made, y -> y.believe(0, 5, 11), 5);
            keeps("a belief that is not there", made, y -> y.believe(2, 5, 10), 5);
            keeps("a wrong type", made, y -> y.type(256), 5);
            keeps("a wrong thing", made, y -> y.thing(1, 2, 3, 100), 5);
            keeps("a wrong story", made, y -> y.story(0, 0, 16), 5);
            keeps("a wrong span", made, y -> y.story(0, 3, 5), 5);
            keeps("a wrong round", made, y -> y.round(11, 0), 5);
        });
        edge(TERMS, "They change nothing (FINDINGS but count() 8).", x -> {
            Test made = States::some;
            keeps("a wrong sheet", made, y -> y.sheet(0, 0, 49), 5);
            keeps("a sheet of another form, below 0", y -> { States.some(y); y.lose(3); }, y -> y.sheet(0, 1, -1), 5);
            keeps("a wrong lose", made, y -> y.lose(4), 5);
            keeps("a lost lose", made, y -> y.lose(3), 1);
            keeps("a wrong put", made, y -> y.put(0, 3, 0, 9), 5);
            keeps("a lost put", made, y -> y.put(3, 0, 0, 9), 1);
            keeps("a put of another form", made, y -> y.put(0, 1, 0, 9), 3);
            keeps("a put beyond", made, y -> y.put(0, 0, 3, 9), 2);
            keeps("a put below", made, y -> y.put(1, 1, -1, 9), 2);
            keeps("a wrong get", made, y -> y.get(0, 3, 0), 5);
            keeps("a lost get", made, y -> y.get(3, 0, 0), 1);
            keeps("a get of another form", made, y -> y.get(0, 1, 0), 3);
            keeps("a get beyond", made, y -> y.get(0, 0, 3), 2);
            keeps("a wrong copy", made, y -> y.copy(0, 0, 4, 0, 1), 5);
            keeps("a lost copy", made, y -> y.copy(0, 0, 3, 0, 1), 1);
            keeps("a copy of unlike forms", made, y -> y.copy(0, 0, 1, 0, 1), 4);
            keeps("a copy beyond", made, y -> y.copy(1, 47, 1, 0, 2), 2);
            keeps("a wrong write", made, y -> y.write(-2, 0, 0), 5);
            keeps("a lost write", made, y -> y.write(-1, 0, 3), 1);
            keeps("a wrong count", made, y -> y.count(9), 5);
        });
    }

    private static void wrongQuestions(TenCoins y) {
        y.many(4, 0, 0);
        y.mean(0, 0, 2);
        y.refused(0, 0, 9, 0);
        y.moves(3, 0, 0);
        y.line(3, 0);
        y.taken(3, 0, 0);
        y.best(3);
        y.hisBest(2);
        y.off(2, 0, 0);
        y.reckon(41, 0);
        y.how(0, -1);
        y.two(0, 2);
        y.goes(2);
        y.odds(0, 3, 0);
        y.misses(5, 0);
        y.learnt(5);
    }

    private static void fullChangesNothing() {
        edge(TERMS, "They change nothing", x -> {
            Test made = States::full;
            keeps("a pair more", made, y -> due("pair", y.pair(3, 0, 5, 0, 50), FULL), 0);
            keeps("a read more", made, y -> due("read", y.read(0, 3, 0, 50), 0), 0);
            keeps("a row more", made, y -> due("row", y.row(3, 1), FULL), 0);
            keeps("a belief more", made, y -> due("belief", y.belief(3), FULL), 0);
            keeps("a byte more", made, y -> due("type", y.type(')'), FULL), 0);
            keeps("a thing more", made, y -> due("thing", y.thing(1, 2, 3, 4), FULL), 0);
            keeps("a round more", made, y -> due("round", y.round(0, 1), FULL), 0);
            keeps("two of too many", made, y -> due("two", y.two(0, 1), FULL), 0);
            keeps("odds by too many", made, y -> due("odds", y.odds(-1, 0, 0), told(FULL)), 0);
        });
    }

    private static void manyCalls() {
        edge(TERMS, "An object is used for at most 512 calls after it has been made; what later calls answer is free.", x -> {
            TenCoins fresh = new TenCoins();
            States.some(fresh);
            long due = fresh.digest();
            for (int k = 0; k < 512 - States.CALLS_FOR_SOME - 2; k++) {
                x.type(k % 2 == 0 ? 256 : -1);
            }
            States.some(x);
            due("the 511th call", x.digest(), due);
            due("the 512th call", x.count(0), 8);
        });
    }

    private static long asTold(TenCoins x) {
        long[] parts = new long[200];
        int n = 0;
        for (int what = 0; what <= 7; what++) {
            parts[n++] = x.count(what);
        }
        parts[n++] = x.fault();
        for (int people = -1; people <= 3; people++) {
            for (int kind = 0; kind <= 3; kind++) {
                parts[n++] = x.many(people, kind, 0);
                parts[n++] = x.many(people, kind, 1);
            }
        }
        parts[n++] = x.mean(-1, 0, 0);
        parts[n++] = x.mean(-1, 0, 1);
        parts[n++] = x.best(-1);
        for (int row = 0; row < x.count(2); row++) {
            for (int what = 0; what <= 2; what++) {
                parts[n++] = x.line(row, what);
            }
        }
        for (int belief = 0; belief < x.count(3); belief++) {
            parts[n++] = x.hisBest(belief);
        }
        for (int what = 0; what <= 8; what++) {
            parts[n++] = what <= 5 ? x.reckon(0, what) : x.reckon(4, what - 6);
        }
        parts[n++] = x.temper();
        for (int thing = 0; thing < x.count(5); thing++) {
            parts[n++] = x.goes(thing);
        }
        parts[n++] = x.looked();
        for (int what = 0; what <= 4; what++) {
            parts[n++] = x.learnt(what);
        }
        long h = 17;
        for (int k = 0; k < n; k++) {
            h = 31 * h + parts[k];
        }
        return h;
    }

    private static void digest() {
        edge(41, "h is 17; h becomes 31 h and each of", x -> {
            due("of a new object", x.digest(), asTold(x));
            // 68 answers, all 0 but for AS OF at the 8th and refusals; by hand from the end on.
            java.math.BigInteger h = java.math.BigInteger.valueOf(17);
            for (int k = 1; k <= 68; k++) {
                long part = k == 8 ? 999 : k == 50 || k == 51 ? Long.MIN_VALUE + 3 : k < 50 || k > 66 ? 0 : -3;
                h = h.multiply(java.math.BigInteger.valueOf(31)).add(java.math.BigInteger.valueOf(part));
            }
            due("by numbers that do not wrap", x.digest(), h.longValue());
        });
        edge(41, "(of each thing all that is told of it, then of the next one):", x -> {
            x.row(0, 0b10000000001);
            x.row(1, 0b00011000000);
            x.belief(0);
            x.belief(1);
            x.believe(0, 3, 5);
            x.thing(1, 2, 3, 4);
            x.thing(4, 3, 2, 1);
            due("two rows, two beliefs, two things", x.digest(), asTold(x));
            TenCoins y = new TenCoins();
            States.some(y);
            due("some of all", y.digest(), asTold(y));
            TenCoins z = new TenCoins();
            States.full(z);
            due("full", z.digest(), asTold(z));
        });
        edge(41, "as longs that wrap.", x -> {
            States.some(x);
            due("digest", x.digest(), asTold(x));
            due("again", x.digest(), asTold(x));
        });
    }

    private static void changes(String what, boolean changed, Test act) {
        TenCoins with = new TenCoins();
        TenCoins without = new TenCoins();
        States.some(with);
        States.some(without);
        act.on(with);
        due(what + " changes it", with.digest() == without.digest() ? 0 : 1, changed ? 1 : 0);
        due(what + " as told", with.digest(), asTold(with));
    }

    private static void digestOfParts() {
        edge(41, "count() 0 to 7; fault();", x -> {
            changes("a pair", true, y -> y.pair(0, 0, 5, 1, 30));
            changes("a taking back", true, y -> y.takeBack(0, 9));
            changes("a row", true, y -> y.row(2, 5));
            changes("a belief", true, y -> y.belief(0));
            changes("a byte", true, y -> y.type('x'));
            changes("a thing", true, y -> y.thing(0, 0, 0, 0));
            changes("a round", true, y -> y.round(6, 0));
            changes("as of", true, y -> y.asOf(21));
            changes("a finding, not told", false, y -> y.lose(3));
        });
        edge(41, "of PEOPLES NONE, 0 to 3 many() of KINDS 0 to 3, each 0, 1;", x -> {
            TenCoins y = new TenCoins();
            for (int people = 0; people < 4; people++) {
                for (int kind = 0; kind < 4; kind++) {
                    for (int k = 0; k <= people + kind / 2; k++) {
                        y.pair(people, kind, 5, kind == 1 || k > 0 ? 1 : 0, 0);
                    }
                }
            }
            due("of all peoples and kinds", y.digest(), asTold(y));
        });
        edge(41, "mean(NONE, 0) above, below, best(NONE) (as they are told);", x -> {
            due("refused: the least long and 3 more", x.digest(), asTold(x));
            x.pair(2, 0, 7, 0, 0);
            x.pair(2, 0, 4, 0, 0);
            x.row(2, 0b11100000000);
            due("11 by 2, and 8", x.digest(), asTold(x));
        });
        edge(41, "of ROWS line() 0 to 2; of BELIEFS hisBest();", x -> {
            changes("a belief of his best", true, y -> y.believe(1, 1, 1));
            changes("a belief that leaves his best", false, y -> y.believe(0, 10, 10));
            x.row(0, 0b00000001000);
            TenCoins y = new TenCoins();
            y.row(0, 0b00000011000);
            due("the greatest offer is told", x.digest() == y.digest() ? 1 : 0, 0);
        });
        edge(41, "reckon(0, 0 to 5), reckon(4, 0 to 2), temper() (as they are told);", x -> {
            String[] texts = {"", "g(", "820", "a(980,000)", "g(a(820,000),a(550,000))", "t(1234", "a(900,000)", "g(700,890)",
                "g(890,700)"};
            for (String text : texts) {
                typeAll(x, text);
                due("digest with " + text, x.digest(), asTold(x));
            }
            typeAll(x, "a(980,000)");
            long late = x.digest();
            typeAll(x, "a(980,111)");
            due("another temper", x.digest() == late ? 1 : 0, 0);
        });
        edge(41, "of THINGS goes(); looked(), learnt() 0 to 4 (as they are told);", x -> {
            due("refused", x.digest(), asTold(x));
            tell(x, 0, 0, 1, 5);
            tell(x, 1, 0, 1, 6);
            x.thing(1, 2, 0, 0);
            due("goes and looked", x.digest(), asTold(x));
            x.round(5, 0);
            due("one round", x.digest(), asTold(x));
            x.round(9, 1);
            due("two rounds", x.digest(), asTold(x));
        });
    }
}
