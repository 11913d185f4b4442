/** Sentences about sheets and counts: promises 34 to 40, and the terms that they use. */
final class SheetsEdges extends Edges {
    static void run() {
        terms();
        findings();
        sheet();
        lose();
        put();
        get();
        copy();
        copyIndex();
        write();
        count();
    }

    private static void terms() {
        edge(TERMS, "SHEETS 0 .. 3 are LOST (at first)", x -> {
            bounds("lose", 0, 3, s -> x.lose(s), BAD);
            for (int s = 0; s < 4; s++) {
                due("lost", x.lose(s), NULL);
            }
            bounds("sheet", 0, 3, s -> x.sheet(s, 0, 5), BAD);
            due("no more lost", x.lose(3), 5);
            due("another stays lost", x.lose(2), NULL);
        });
        edge(TERMS, "or a row of a FORM: 0 bytes, 1 shorts, 2 ints, of 0 to 48 items (0 at first).", x -> {
            bounds("form", 0, 2, form -> x.sheet(0, form, 5), BAD);
            for (int form = 0; form < 3; form++) {
                due("48 items", x.sheet(form, form, 48), 48);
                for (int i = 0; i < 48; i++) {
                    due("nought at first", x.get(form, form, i), 0);
                }
                due("no 49th", x.put(form, form, 48, 1), INDEX);
            }
            due("49 items", x.sheet(0, 0, 49), BAD);
            due("no items", x.sheet(0, 0, 0), 0);
            due("no first", x.put(0, 0, 0, 1), INDEX);
            due("it is not lost", x.lose(0), 0);
        });
        edge(TERMS, "FINDINGS (answers -10 less the number; they change nothing but count() 8):", x -> {
            fill(x, 0, 0, 5, 6);
            x.sheet(1, 1, 1);
            int[] answers = {x.lose(3), x.put(0, 0, 2, 1), x.put(0, 1, 0, 1), x.copy(0, 0, 1, 0, 1), x.sheet(0, 0, -1)};
            for (int k = 0; k < answers.length; k++) {
                due("finding", answers[k], -10 - (k + 1));
            }
            due("the latest", x.count(8), 5);
            items("the sheet", x, 0, 0, 5, 6);
            items("the other", x, 1, 1, 0);
        });
    }

    private static void findings() {
        edge(TERMS, "1 NULL: the SHEET is LOST;", x -> {
            x.sheet(1, 0, 1);
            due("lose", x.lose(0), NULL);
            due("put", x.put(0, 0, 0, 0), NULL);
            due("copy from", x.copy(0, 0, 1, 0, 0), NULL);
            due("copy to", x.copy(1, 0, 0, 0, 0), NULL);
            due("read", x.read(0, 0, 0, 0), NULL);
            due("write", x.write(0, 0, 0), NULL);
            due("noted", x.count(8), 1);
        });
        edge(TERMS, "2 INDEX: there is no such item;", x -> {
            x.sheet(1, 0, 3);
            for (int wrong : outside(0, 2)) {
                due("put at " + wrong, x.put(1, 0, wrong, 1), INDEX);
            }
            due("the first", x.put(1, 0, 0, 1), 1);
            due("the last", x.put(1, 0, 2, 1), 1);
            due("noted", x.count(8), 2);
        });
        edge(TERMS, "3 CAST: it has another FORM;", x -> {
            for (int has = 0; has < 3; has++) {
                x.sheet(0, has, 1);
                for (int form = 0; form < 3; form++) {
                    due("put", x.put(0, form, 0, 1), form == has ? 1 : CAST);
                }
            }
            due("noted", x.count(8), 3);
        });
        edge(TERMS, "4 STORE: unlike FORMS;", x -> {
            for (int from = 0; from < 3; from++) {
                for (int to = 0; to < 3; to++) {
                    x.sheet(0, from, 1);
                    x.sheet(1, to, 1);
                    due("copy", x.copy(0, 0, 1, 0, 1), from == to ? 1 : STORE);
                }
            }
            due("noted", x.count(8), 4);
        });
        edge(TERMS, "5 SIZE: below 0.", x -> {
            due("-1", x.sheet(0, 0, -1), SIZE);
            due("the least", x.sheet(0, 0, MIN), SIZE);
            due("noted", x.count(8), 5);
            due("0", x.sheet(0, 0, 0), 0);
        });
    }

    private static void sheet() {
        edge(34, "A SHEET is a new row of a FORM with n items: n.", x -> {
            due("none", x.sheet(0, 0, 0), 0);
            due("one", x.sheet(1, 1, 1), 1);
            due("48", x.sheet(2, 2, 48), 48);
            x.put(2, 2, 47, 9);
            x.put(2, 2, 0, 9);
            due("anew, of another form", x.sheet(2, 0, 48), 48);
            due("nought again", x.get(2, 0, 47), 0);
            x.put(2, 0, 47, 9);
            x.sheet(2, 0, 1);
            due("fewer items", x.put(2, 0, 1, 1), INDEX);
            x.sheet(2, 0, 48);
            due("nought in those that come again", x.get(2, 0, 47), 0);
            x.put(2, 0, 47, 9);
            x.lose(2);
            x.sheet(2, 0, 48);
            due("nought behind losing it", x.get(2, 0, 47), 0);
            due("others stay", x.lose(1), 1);
        });
        edge(34, "A SHEET is a new row of a FORM with n items:", x -> {
            for (int anew = 0; anew < 4; anew++) {
                allNought(anew);
            }
        });
        edge(34, "BAD: SHEET, FORM, above 48;", x -> {
            bounds("sheet", 0, 3, v -> x.sheet(v, 0, 1), BAD);
            bounds("form", 0, 2, v -> x.sheet(0, v, 1), BAD);
            due("49", x.sheet(0, 0, 49), BAD);
            due("the greatest", x.sheet(0, 0, MAX), BAD);
            due("48", x.sheet(0, 0, 48), 48);
            due("no finding", x.count(8), 0);
        });
        edge(34, "SIZE.", x -> {
            due("-1", x.sheet(0, 0, -1), SIZE);
            due("it is lost still", x.lose(0), NULL);
            fill(x, 0, 1, 300);
            due("over another one", x.sheet(0, 2, -1), SIZE);
            items("which stays", x, 0, 1, 300);
            due("BAD sheet goes ahead", x.sheet(4, 0, -1), BAD);
            due("BAD form goes ahead", x.sheet(0, 3, -1), BAD);
            due("noted", x.count(8), 2);
        });
    }

    private static void allNought(int anew) {
        TenCoins x = new TenCoins();
        for (int s = 0; s < 4; s++) {
            x.sheet(s, 1, 48);
            for (int i = 0; i < 48; i++) {
                x.put(s, 1, i, 100 * s + i + 1);
            }
        }
        x.sheet(anew, 1, 48);
        for (int s = 0; s < 4; s++) {
            for (int i = 0; i < 48; i++) {
                due("sheet " + anew + " anew, item " + i + " of " + s, x.get(s, 1, i), s == anew ? 0 : 100 * s + i + 1);
            }
        }
    }

    private static void lose() {
        edge(35, "It is LOST: how many items it had.", x -> {
            x.sheet(0, 0, 0);
            x.sheet(1, 2, 48);
            due("none", x.lose(0), 0);
            due("48", x.lose(1), 48);
            due("lost", x.put(1, 2, 0, 1), NULL);
        });
        edge(35, "BAD;", x -> {
            for (int s = 0; s < 4; s++) {
                x.sheet(s, 0, s);
            }
            bounds("sheet", 0, 3, v -> x.lose(v), BAD);
            due("the others stay", x.lose(1) + x.lose(2), 3);
        });
        edge(35, "NULL.", x -> {
            due("at first", x.lose(0), NULL);
            x.sheet(0, 0, 3);
            x.lose(0);
            due("again", x.lose(0), NULL);
            due("noted", x.count(8), 1);
        });
    }

    private static void put() {
        edge(36, "Item i, treated as of a FORM, becomes v", x -> {
            x.sheet(0, 0, 3);
            due("put", x.put(0, 0, 1, 77), 1);
            items("it alone", x, 0, 0, 0, 77, 0);
        });
        edge(36, "(the lowest bits that it has, with its sign;", x -> {
            int[] v = {127, 128, 255, 256, -128, -129, 32767, 32768, 65535, 65536, -32768, -32769, MAX, MIN};
            int[] bytes = {127, -128, -1, 0, -128, 127, -1, 0, -1, 0, 0, -1, -1, 0};
            int[] shorts = {127, 128, 255, 256, -128, -129, 32767, -32768, -1, 0, -32768, 32767, -1, 0};
            x.sheet(0, 0, 1);
            x.sheet(1, 1, 1);
            x.sheet(2, 2, 1);
            for (int k = 0; k < v.length; k++) {
                due("put a byte", x.put(0, 0, 0, v[k]), 1);
                due("put a short", x.put(1, 1, 0, v[k]), 1);
                due("put an int", x.put(2, 2, 0, v[k]), 1);
                due("byte of " + v[k], x.get(0, 0, 0), bytes[k]);
                due("short of " + v[k], x.get(1, 1, 0), shorts[k]);
                due("int of " + v[k], x.get(2, 2, 0), v[k]);
            }
        });
        edge(36, "by write(), too): 1.", x -> {
            tell(x, 0, 0, 1, 10, 0);
            for (int form = 0; form < 3; form++) {
                fill(x, form, form, -1, -1, -1);
                due("write", x.write(0, 0, form), 2);
                items("of form " + form, x, form, form, 10, 0, -1);
                due("put", x.put(form, form, 2, 5), 1);
            }
        });
        edge(36, "BAD;", x -> {
            for (int s = 0; s < 4; s++) {
                x.sheet(s, 0, 2);
            }
            bounds("sheet", 0, 3, v -> x.put(v, 0, 0, 5), BAD);
            bounds("form", 0, 2, v -> x.put(0, v, 0, 5), BAD);
            due("form goes ahead of INDEX", x.put(0, 3, 9, 5), BAD);
            x.lose(0);
            due("form goes ahead of NULL", x.put(0, -1, 0, 5), BAD);
        });
        edge(36, "NULL;", x -> {
            due("lost", x.put(0, 0, 0, 5), NULL);
            due("ahead of INDEX", x.put(0, 0, -1, 5), NULL);
            x.sheet(0, 1, 2);
            x.lose(0);
            due("ahead of CAST", x.put(0, 2, 0, 5), NULL);
            due("noted", x.count(8), 1);
        });
        edge(36, "CAST;", x -> {
            fill(x, 0, 1, 7);
            due("a byte", x.put(0, 0, 0, 5), CAST);
            due("an int", x.put(0, 2, 0, 5), CAST);
            due("ahead of INDEX", x.put(0, 0, 1, 5), CAST);
            due("noted", x.count(8), 3);
            items("as it was", x, 0, 1, 7);
        });
        edge(36, "INDEX.", x -> {
            fill(x, 0, 1, 7, 8);
            fill(x, 1, 1, 9, 9);
            for (int wrong : outside(0, 1)) {
                due("item " + wrong, x.put(0, 1, wrong, 5), INDEX);
            }
            due("48", x.put(0, 1, 48, 5), INDEX);
            due("noted", x.count(8), 2);
            items("as it was", x, 0, 1, 7, 8);
            items("the next one, too", x, 1, 1, 9, 9);
        });
    }

    private static void get() {
        edge(37, "Item i of it.", x -> {
            fill(x, 3, 2, 1, -2, MIN);
            items("items", x, 3, 2, 1, -2, MIN);
            x.sheet(0, 0, 48);
            x.put(0, 0, 47, -9);
            due("the last of 48", x.get(0, 0, 47), -9);
        });
        edge(37, "BAD: the least int;", x -> {
            for (int s = 0; s < 4; s++) {
                fill(x, s, 0, 5, 6);
            }
            bounds("sheet", 0, 3, v -> x.get(v, 0, 0), MIN);
            for (int wrong : outside(0, 2)) {
                due("form " + wrong, x.get(0, wrong, 0), MIN);
            }
            due("form goes ahead", x.get(0, 3, 9), MIN);
            due("none is a finding", x.count(8), 0);
        });
        edge(37, "so are NULL, CAST, INDEX (count() 8 tells).", x -> {
            fill(x, 1, 1, 5, 6);
            due("lost", x.get(0, 0, 0), MIN);
            due("NULL", x.count(8), 1);
            due("another form", x.get(1, 0, 0), MIN);
            due("CAST", x.count(8), 3);
            due("no such item", x.get(1, 1, 2), MIN);
            due("INDEX", x.count(8), 2);
            x.get(0, 1, -1);
            due("NULL goes ahead of INDEX", x.count(8), 1);
            x.get(1, 2, -1);
            due("CAST goes ahead of INDEX", x.count(8), 3);
            due("below", x.get(1, 1, -1), MIN);
            due("INDEX again", x.count(8), 2);
            due("far", x.get(1, 1, MAX), MIN);
            due("least", x.get(1, 1, MIN), MIN);
            x.get(0, 0, 0);
            due("one that is there", x.get(1, 1, 1), 6);
            due("is no finding", x.count(8), 1);
        });
    }

    private static void copy() {
        edge(38, "n items of SHEET s, from i on, come to SHEET t (perhaps s, as they were), from j on: 1.", x -> {
            fill(x, 0, 1, 1, 2, 3, 4, 5);
            x.sheet(3, 1, 4);
            due("three", x.copy(0, 2, 3, 1, 3), 1);
            items("they came", x, 3, 1, 0, 3, 4, 5);
            items("they stay", x, 0, 1, 1, 2, 3, 4, 5);
            due("upwards", x.copy(0, 0, 0, 1, 4), 1);
            items("as they were", x, 0, 1, 1, 1, 2, 3, 4);
            due("downwards", x.copy(0, 1, 0, 0, 4), 1);
            items("as they were then", x, 0, 1, 1, 2, 3, 4, 4);
            due("upon itself", x.copy(0, 0, 0, 0, 5), 1);
            items("the same", x, 0, 1, 1, 2, 3, 4, 4);
            due("none", x.copy(0, 5, 3, 4, 0), 1);
            items("nothing came", x, 3, 1, 0, 3, 4, 5);
        });
        edge(38, "BAD: the SHEETS;", x -> {
            for (int s = 0; s < 4; s++) {
                x.sheet(s, 0, 1);
            }
            bounds("s", 0, 3, v -> x.copy(v, 0, 0, 0, 1), BAD);
            bounds("t", 0, 3, v -> x.copy(0, 0, v, 0, 1), BAD);
            x.lose(0);
            due("s goes ahead of NULL of t", x.copy(4, 0, 0, 0, 1), BAD);
            due("t goes ahead of NULL of s", x.copy(0, 0, 4, 0, 1), BAD);
            due("no finding", x.count(8), 0);
            due("i is no BAD", x.copy(1, -1, 1, 0, 1), INDEX);
        });
        edge(38, "NULL: s, t;", x -> {
            x.sheet(1, 0, 1);
            due("s", x.copy(0, 0, 1, 0, 1), NULL);
            due("t", x.copy(1, 0, 0, 0, 1), NULL);
            due("both", x.copy(2, 0, 3, 0, 1), NULL);
            due("itself", x.copy(2, 0, 2, 0, 0), NULL);
            due("ahead of INDEX", x.copy(0, -1, 1, 9, -1), NULL);
            x.sheet(0, 2, 1);
            x.lose(0);
            due("ahead of STORE", x.copy(0, 0, 1, 0, 1), NULL);
            due("noted", x.count(8), 1);
        });
        edge(38, "STORE;", x -> {
            fill(x, 0, 0, 1);
            fill(x, 1, 1, 2);
            due("unlike", x.copy(0, 0, 1, 0, 1), STORE);
            due("unlike, back", x.copy(1, 0, 0, 0, 1), STORE);
            due("of none, too", x.copy(0, 0, 1, 0, 0), STORE);
            due("ahead of INDEX", x.copy(0, -1, 1, 2, 9), STORE);
            due("noted", x.count(8), 4);
            items("as it was", x, 1, 1, 2);
        });
    }

    private static void copyIndex() {
        edge(38, "INDEX: i, j or n below 0,", x -> {
            x.sheet(0, 0, 5);
            x.sheet(1, 0, 5);
            for (int below : new int[] {-1, -2, MIN}) {
                due("i " + below, x.copy(0, below, 1, 0, 1), INDEX);
                due("j " + below, x.copy(0, 0, 1, below, 1), INDEX);
                due("n " + below, x.copy(0, 1, 1, 1, below), INDEX);
                due("i of none", x.copy(0, below, 1, 0, 0), INDEX);
                due("j of none", x.copy(0, 0, 1, below, 0), INDEX);
                due("all " + below, x.copy(0, below, 1, below, below), INDEX);
            }
            due("noted", x.count(8), 2);
        });
        edge(38, "not so many there", x -> {
            fill(x, 0, 2, 1, 2, 3, 4, 5);
            fill(x, 1, 2, 6, 7, 8);
            due("five of five into three", x.copy(0, 0, 1, 0, 5), INDEX);
            due("four into three", x.copy(0, 0, 1, 0, 4), INDEX);
            due("three from 3 on", x.copy(0, 3, 1, 0, 3), INDEX);
            due("two to 2 on", x.copy(0, 0, 1, 2, 2), INDEX);
            due("one from 5 on", x.copy(0, 5, 1, 0, 1), INDEX);
            due("one to 3 on", x.copy(0, 0, 1, 3, 1), INDEX);
            due("a sum that wraps, i", x.copy(0, MAX, 1, 0, 1), INDEX);
            due("a sum that wraps, j", x.copy(0, 0, 1, MAX, 1), INDEX);
            due("a sum that wraps, n", x.copy(0, 1, 1, 1, MAX), INDEX);
            due("all of them", x.copy(0, MAX, 1, MAX, MAX), INDEX);
            items("nothing came", x, 1, 2, 6, 7, 8);
            due("two from 3 on", x.copy(0, 3, 1, 1, 2), 1);
            items("two came", x, 1, 2, 6, 4, 5);
            due("three, all of it", x.copy(0, 2, 1, 0, 3), 1);
            items("three came", x, 1, 2, 3, 4, 5);
        });
        edge(38, "(of n 0, too: i or j above the size).", x -> {
            x.sheet(0, 0, 5);
            x.sheet(1, 0, 3);
            x.sheet(2, 0, 0);
            due("both at the size", x.copy(0, 5, 1, 3, 0), 1);
            due("i above", x.copy(0, 6, 1, 0, 0), INDEX);
            due("j above", x.copy(0, 0, 1, 4, 0), INDEX);
            due("i far above", x.copy(0, MAX, 1, 0, 0), INDEX);
            due("j far above", x.copy(0, 0, 1, MAX, 0), INDEX);
            due("no items at all", x.copy(2, 0, 2, 0, 0), 1);
            due("one of none", x.copy(2, 0, 2, 0, 1), INDEX);
            due("above none", x.copy(2, 1, 2, 0, 0), INDEX);
        });
    }

    private static void write() {
        edge(39, "OFFERS of PAIRS of a PEOPLE (NONE: all) and a KIND that COUNT come to a SHEET from item 0 on,", x -> {
            x.pair(0, 0, 9, 0, 1);
            x.pair(3, 0, 8, 1, 2);
            x.pair(0, 3, 7, 1, 3);
            x.pair(0, 0, 0, 1, 4);
            x.pair(0, 0, 5, 1, 5);
            x.takeBack(0, 6);
            fill(x, 0, 2, -1, -1, -1, -1, -1);
            due("of one", x.write(0, 0, 0), 2);
            items("of one", x, 0, 2, 0, 5, -1, -1, -1);
            due("of all", x.write(-1, 0, 0), 3);
            items("of all", x, 0, 2, 8, 0, 5, -1, -1);
            x.asOf(4);
            due("as of 4", x.write(-1, 0, 0), 3);
            items("as of 4", x, 0, 2, 9, 8, 0, -1, -1);
            due("of a kind", x.write(-1, 3, 0), 1);
            items("of a kind", x, 0, 2, 7, 8, 0, -1, -1);
        });
        edge(39, "as many as there are items: how many.", x -> {
            tell(x, 0, 0, 1, 1, 2, 3);
            x.sheet(0, 0, 0);
            due("no items", x.write(0, 0, 0), 0);
            x.sheet(0, 0, 2);
            due("two items", x.write(0, 0, 0), 2);
            items("the first two", x, 0, 0, 1, 2);
            x.sheet(0, 0, 3);
            due("three items", x.write(0, 0, 0), 3);
            x.sheet(0, 0, 4);
            due("four items", x.write(0, 0, 0), 3);
            due("no pairs", x.write(1, 0, 0), 0);
            items("nothing came then", x, 0, 0, 1, 2, 3, 0);
            for (int k = 3; k < 60; k++) {
                x.pair(0, 0, k % 11, 1, 0);
            }
            x.sheet(0, 0, 48);
            due("48 of sixty", x.write(0, 0, 0), 48);
            due("the 48th", x.get(0, 0, 47), 47 % 11);
            due("none of sixty, with room", x.write(2, 0, 0), 0);
        });
        edge(39, "BAD;", x -> {
            for (int s = 0; s < 4; s++) {
                x.sheet(s, 0, 1);
            }
            bounds("people", -1, 3, v -> x.write(v, 0, 0), BAD);
            bounds("kind", 0, 3, v -> x.write(0, v, 0), BAD);
            bounds("sheet", 0, 3, v -> x.write(0, 0, v), BAD);
            due("no finding", x.count(8), 0);
        });
        edge(39, "NULL.", x -> {
            due("lost", x.write(0, 0, 0), NULL);
            due("BAD people goes ahead", x.write(4, 0, 0), BAD);
            due("BAD kind goes ahead", x.write(0, 4, 0), BAD);
            due("noted", x.count(8), 1);
        });
    }

    private static void count() {
        edge(40, "0 PAIRS, 1 those that COUNT, 2 ROWS, 3 BELIEFS, 4 bytes of the GAME, 5 THINGS, 6 ROUNDS, 7 AS OF,", x -> {
            States.full(x);
            int[] most = {60, 60, 12, 8, 60, 6, 24, 999};
            for (int what = 0; what < most.length; what++) {
                due("all full, count " + what, x.count(what), most[what]);
            }
            x.takeBack(59, 50);
            due("taken back", x.count(1), 59);
            due("told still", x.count(0), 60);
            x.asOf(0);
            due("as of", x.count(7), 0);
            x.wipe();
            x.forget();
            due("wiped", x.count(4), 0);
            due("forgotten", x.count(6), 0);
        });
        edge(40, "8 the number of the latest FINDING (0 before any).", x -> {
            due("before any", x.count(8), 0);
            x.pair(9, 9, 9, 9, 9);
            x.takeBack(0, 0);
            x.sheet(4, 0, 0);
            due("BAD is none", x.count(8), 0);
            x.sheet(0, 0, -1);
            due("SIZE", x.count(8), 5);
            x.sheet(0, 0, 1);
            due("it stays", x.count(8), 5);
            x.put(0, 0, 1, 1);
            due("INDEX", x.count(8), 2);
            x.put(0, 2, 0, 1);
            due("CAST", x.count(8), 3);
            x.sheet(1, 2, 1);
            x.copy(0, 0, 1, 0, 0);
            due("STORE", x.count(8), 4);
            x.lose(3);
            due("NULL", x.count(8), 1);
            x.get(0, 0, -1);
            due("INDEX by get", x.count(8), 2);
            x.temper();
            x.looked();
            due("NOT is none", x.count(8), 2);
        });
        edge(40, "BAD.", x -> bounds("what", 0, 8, v -> x.count(v), BAD));
    }
}
