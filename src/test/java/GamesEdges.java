/** Sentences about games: promises 18 to 23, and the terms that they use. */
final class GamesEdges extends Edges {
    private static final String SIXTY = "g(a(123,234,345,456),t(567,678,789,890),a(t(901)),t(a(012)))";

    static void run() {
        texts();
        faults();
        reckoning();
        counting();
        temperTerms();
        type();
        wipe();
        fault();
        reckon();
        how();
        temper();
    }

    private static void faultOf(TenCoins x, String text, int place) {
        typeAll(x, text);
        due("fault of " + text, x.fault(), place);
    }

    private static void texts() {
        edge(TERMS, "A GAME is a text of up to 60 bytes: a NODE.", x -> {
            due("sixty bytes", SIXTY.length(), 60);
            faultOf(x, SIXTY, NONE);
            due("one more", x.type(')'), FULL);
            due("it stands", x.fault(), NONE);
            due("its ends", x.reckon(0, 4), 10);
            due("its letters", x.reckon(0, 5), 7);
            faultOf(x, "123", NONE);
            faultOf(x, "a(123)", NONE);
            faultOf(x, "123123", 3);
        });
        edge(TERMS, "A NODE is a letter g (the giver), a (the answerer), t (a third),", x -> {
            String[] letters = {"g", "a", "t"};
            for (int k = 0; k < 3; k++) {
                typeAll(x, letters[k] + "(100,010,001)");
                due("what " + letters[k] + " takes", x.how(0, 0), k);
            }
            for (String other : new String[] {"G", "A", "T", "b", "f", "h", "s", "u", " ", "/", ":", "`"}) {
                faultOf(x, other + "(100)", 0);
                faultOf(x, "g(" + other + "(100))", 2);
            }
            x.wipe();
            x.type('g' + 128);
            due("a byte above", x.fault(), 0);
        });
        edge(TERMS, "then (, NODES with , between them (1 to 4 of them), then );", x -> {
            faultOf(x, "g100", 1);
            faultOf(x, "g)", 1);
            faultOf(x, "g,", 1);
            faultOf(x, "g((", 2);
            faultOf(x, "g()", 2);
            faultOf(x, "g(,", 2);
            faultOf(x, "g(100)", NONE);
            faultOf(x, "g(100,100)", NONE);
            faultOf(x, "g(100,100,100)", NONE);
            faultOf(x, "g(100,100,100,100)", NONE);
            faultOf(x, "g(100,100,100,100,100)", 17);
            faultOf(x, "g(100100)", 5);
            faultOf(x, "g(100(", 5);
            faultOf(x, "g(100g", 5);
            faultOf(x, "g(100,,", 6);
            faultOf(x, "g(100,)", 6);
            faultOf(x, "g(a(100,100,100,100),a(100),t(100),100)", NONE);
            faultOf(x, "g(a(100,100),a(100),t(100),100,", 30);
        });
        edge(TERMS, "or an END: three figures: what the giver, the answerer, the third get.", x -> {
            typeAll(x, "079");
            for (int who = 0; who < 3; who++) {
                due("gets " + who, x.reckon(0, who), new int[] {0, 7, 9}[who]);
            }
            faultOf(x, "/00", 0);
            faultOf(x, "0:0", 1);
            faultOf(x, "00/", 2);
            faultOf(x, "9g", 1);
            faultOf(x, "99)", 2);
            faultOf(x, "g(12)", 4);
            faultOf(x, "g(1234)", 5);
            faultOf(x, "-12", 0);
        });
    }

    private static void faults() {
        edge(TERMS, "The FAULT is the place of the first byte with which it cannot go on", x -> {
            faultOf(x, "x", 0);
            faultOf(x, "gx", 1);
            faultOf(x, "g(x", 2);
            faultOf(x, "g(1x", 3);
            faultOf(x, "g(1xg(1", 3);
            faultOf(x, "g(1xxxx", 3);
            typeAll(x, "g(1x");
            x.type('2');
            x.type('3');
            x.type(')');
            due("nothing mends it", x.fault(), 3);
            x.wipe();
            x.type(0);
            due("byte 0", x.fault(), 0);
            x.wipe();
            x.type(255);
            due("byte 255", x.fault(), 0);
        });
        edge(TERMS, "(of one that is not ended, its end: of an empty text 0;", x -> {
            due("empty", x.fault(), 0);
            String whole = "g(a(123,456),7";
            for (int k = 1; k <= whole.length(); k++) {
                faultOf(x, whole.substring(0, k), k);
            }
            faultOf(x, "1", 1);
            faultOf(x, "12", 2);
            faultOf(x, "g(".repeat(30), 60);
            faultOf(x, "g(".repeat(28) + "123", 59);
            faultOf(x, SIXTY.substring(0, 59), 59);
            x.wipe();
            due("empty again", x.fault(), 0);
        });
        edge(TERMS, "behind the NODE's end: there).", x -> {
            faultOf(x, "1234", 3);
            faultOf(x, "123)", 3);
            faultOf(x, "123,", 3);
            faultOf(x, "123g", 3);
            faultOf(x, "g(123))", 6);
            faultOf(x, "g(123),", 6);
            faultOf(x, "g(123)(", 6);
            faultOf(x, "g(123)a(123)", 6);
            faultOf(x, "g(a(t(123)))))", 12);
            x.wipe();
            for (char c : "123".toCharArray()) {
                x.type(c);
            }
            due("ended", x.fault(), NONE);
            x.type(0);
            due("no more", x.fault(), 3);
        });
    }

    private static void endOf(TenCoins x, int anger, int giver, int answerer, int third) {
        due("giver with anger " + anger, x.reckon(anger, 0), giver);
        due("answerer with anger " + anger, x.reckon(anger, 1), answerer);
        due("third with anger " + anger, x.reckon(anger, 2), third);
    }

    private static void reckoning() {
        edge(TERMS, "RECKONED with ANGER n (0 to 40):", x -> {
            typeAll(x, "a(980,000)");
            endOf(x, 0, 9, 8, 0);
            endOf(x, 32, 9, 8, 0);
            endOf(x, 33, 0, 0, 0);
            endOf(x, 40, 0, 0, 0);
            for (int wrong : outside(0, 40)) {
                due("reckon with " + wrong, x.reckon(wrong, 0), BAD);
                due("how with " + wrong, x.how(wrong, 0), BAD);
            }
        });
        edge(TERMS, "each takes of the NODES the one with the greatest WORTH for the one whose letter it is, of like ones the first;", x -> {
            typeAll(x, "g(a(910,920),a(800),t(999,119))");
            endOf(x, 0, 9, 2, 0);
            due("the first of like ones", x.how(0, 0), 0);
            typeAll(x, "t(100,200,300,400)");
            endOf(x, 0, 1, 0, 0);
            typeAll(x, "t(100,201,301,400)");
            endOf(x, 0, 2, 0, 1);
            typeAll(x, "g(800,a(900,110),700,800)");
            endOf(x, 0, 8, 0, 0);
            typeAll(x, "a(220,110)");
            endOf(x, 40, 2, 2, 0);
        });
        edge(TERMS, "WORTH of an END for one: 4 times what one gets, less n times what the one of the others with the most gets more (0 at least).", x -> {
            typeAll(x, "a(310,000)");
            endOf(x, 2, 3, 1, 0);
            endOf(x, 3, 0, 0, 0);
            typeAll(x, "a(013,000)");
            endOf(x, 2, 0, 1, 3);
            endOf(x, 3, 0, 0, 0);
            typeAll(x, "a(313,000)");
            due("the most of both, not both together", x.reckon(2, 1), 1);
            typeAll(x, "a(090,099)");
            due("those that get less are no gain", x.how(40, 0), 0);
            typeAll(x, "g(512,500)");
            due("being ahead is no loss", x.how(40, 0), 0);
            typeAll(x, "t(111,220)");
            endOf(x, 0, 1, 1, 1);
            typeAll(x, "g(190,000)");
            endOf(x, 0, 1, 9, 0);
            endOf(x, 1, 0, 0, 0);
        });
        edge(TERMS, "What all get;", x -> {
            typeAll(x, "g(123,456,a(789,780))");
            endOf(x, 0, 7, 8, 9);
            typeAll(x, "000");
            endOf(x, 40, 0, 0, 0);
            typeAll(x, "999");
            endOf(x, 40, 9, 9, 9);
        });
    }

    private static void counting() {
        edge(TERMS, "HOW: which of its NODES is taken at the i-th letter on the way (from 0);", x -> {
            typeAll(x, "g(000,000,a(000,t(000,000,000,911)))");
            int[] way = {2, 1, 3, NONE};
            for (int i = 0; i < way.length; i++) {
                due("how at " + i, x.how(0, i), way[i]);
            }
            typeAll(x, "g(a(123,123,123),a(023))");
            due("the first letter", x.how(0, 0), 0);
            due("the letter on the way", x.how(0, 1), 0);
        });
        edge(TERMS, "how many ENDS, how many letters there are.", x -> {
            String[] texts = {"123", "g(123)", "g(a(t(123)))", "g(123,a(123,123),t(123,123))", SIXTY};
            int[] ends = {1, 1, 1, 5, 10};
            int[] letters = {0, 1, 3, 3, 7};
            for (int k = 0; k < texts.length; k++) {
                typeAll(x, texts[k]);
                due("ends of " + texts[k], x.reckon(7, 4), ends[k]);
                due("letters of " + texts[k], x.reckon(7, 5), letters[k]);
            }
        });
    }

    private static void temperOf(TenCoins x, String text, int least) {
        typeAll(x, text);
        due("temper of " + text, x.temper(), least);
    }

    private static void temperTerms() {
        edge(TERMS, "TEMPER: the least ANGER (0 to 40) with which it is RECKONED to another END than with 0", x -> {
            temperOf(x, "a(900,000)", 1);
            temperOf(x, "a(980,000)", 33);
            temperOf(x, "a(000,980)", 32);
            temperOf(x, "a(310,000)", 3);
            temperOf(x, "a(000,310)", 2);
            temperOf(x, "g(a(820,000),a(550,000))", 2);
        });
        edge(TERMS, "(also one of like figures);", x -> {
            temperOf(x, "g(a(510,000),t(510))", 2);
            due("like figures", x.reckon(2, 0), x.reckon(0, 0));
            due("another node", x.how(2, 0), 1);
            temperOf(x, "g(510,510)", NONE);
        });
        edge(TERMS, "NONE.", x -> {
            temperOf(x, "920", NONE);
            temperOf(x, "g(920)", NONE);
            temperOf(x, "a(190,000)", NONE);
            temperOf(x, "a(000,190)", NONE);
            temperOf(x, "a(990,880)", NONE);
            temperOf(x, "a(110,910)", NONE);
            temperOf(x, "a(980,970)", NONE);
        });
    }

    private static void type() {
        edge(18, "A byte (0 to 255) comes behind the GAME: how many.", x -> {
            due("0", x.type(0), 1);
            due("255", x.type(255), 2);
            due("a letter", x.type('g'), 3);
            due("count(4)", x.count(4), 3);
        });
        edge(18, "BAD;", x -> {
            bounds("byte", 0, 255, v -> x.type(v), BAD);
            due("two came", x.count(4), 2);
        });
        edge(18, "FULL.", x -> {
            for (int k = 1; k <= 60; k++) {
                due("type", x.type('1'), k);
            }
            due("full", x.type('1'), FULL);
            due("BAD goes ahead", x.type(256), BAD);
            due("BAD goes ahead, below", x.type(-1), BAD);
            due("sixty", x.count(4), 60);
            due("fault", x.fault(), 3);
        });
    }

    private static void wipe() {
        edge(19, "The GAME is empty: how many bytes it had.", x -> {
            due("none", x.wipe(), 0);
            typeAll(x, "g(xx");
            due("four", x.wipe(), 4);
            due("none then", x.wipe(), 0);
            due("count(4)", x.count(4), 0);
            due("fault", x.fault(), 0);
            due("nothing to reckon", x.reckon(0, 4), NOT);
            for (int k = 0; k < 60; k++) {
                x.type('g');
            }
            due("sixty", x.wipe(), 60);
            due("room again", x.type('1'), 1);
            typeAll(x, "a(123)");
            due("nothing is left of the old", x.reckon(0, 5), 1);
            due("nor of its ends", x.reckon(0, 4), 1);
        });
    }

    private static void fault() {
        edge(20, "The FAULT;", x -> {
            faultOf(x, "g(123,1", 7);
            faultOf(x, "g(123,1g", 7);
            faultOf(x, "(", 0);
        });
        edge(20, "NONE.", x -> {
            faultOf(x, "000", NONE);
            faultOf(x, "t(000)", NONE);
            faultOf(x, "a(".repeat(19) + "123" + ")".repeat(19), NONE);
        });
    }

    private static void reckon() {
        edge(21, "RECKONED: what one gets (what = 0 giver, 1 answerer, 2 third), how many letters are on the way (3), ENDS (4), letters (5) in all.", x -> {
            int[] shortWay = {5, 5, 5, 1, 6, 5};
            typeAll(x, "g(t(a(321,123)),a(187,t(678,679)),555)");
            for (int what = 0; what < 6; what++) {
                due("what " + what, x.reckon(0, what), shortWay[what]);
            }
            int[] longWay = {6, 8, 9, 3, 6, 5};
            typeAll(x, "g(t(a(321,123)),a(177,t(688,689)),555)");
            for (int what = 0; what < 6; what++) {
                due("what " + what, x.reckon(0, what), longWay[what]);
            }
            typeAll(x, "444");
            due("no letter on the way", x.reckon(0, 3), 0);
            typeAll(x, "a(".repeat(19) + "123" + ")".repeat(19));
            due("nineteen on the way", x.reckon(0, 3), 19);
        });
        edge(21, "BAD;", x -> {
            typeAll(x, "123");
            bounds("anger", 0, 40, v -> x.reckon(v, 0), BAD);
            bounds("what", 0, 5, v -> x.reckon(0, v), BAD);
            for (int what = 0; what < 6; what++) {
                due("anger above with what " + what, x.reckon(41, what), BAD);
            }
        });
        edge(21, "NOT: a FAULT.", x -> {
            for (String text : new String[] {"", "g", "g(", "g(1", "g(123", "g(123))", "1234", "x"}) {
                typeAll(x, text);
                for (int what = 0; what < 6; what++) {
                    due("what " + what + " of " + text, x.reckon(0, what), NOT);
                }
                due("BAD anger goes ahead", x.reckon(-1, 0), BAD);
                due("BAD what goes ahead", x.reckon(0, 6), BAD);
            }
        });
    }

    private static void how() {
        edge(22, "HOW (from 0);", x -> {
            typeAll(x, "g(100,a(200,210,220,230))");
            due("at 0", x.how(0, 0), 1);
            due("at 1", x.how(0, 1), 3);
            typeAll(x, "a(910,000)");
            due("calm", x.how(0, 0), 0);
            due("angry", x.how(40, 0), 1);
        });
        edge(22, "NONE: beyond the way.", x -> {
            typeAll(x, "123");
            due("an end has no way", x.how(0, 0), NONE);
            typeAll(x, "g(a(123),t(023))");
            due("the last letter", x.how(0, 1), 0);
            due("one more", x.how(0, 2), NONE);
            due("sixty", x.how(0, 60), NONE);
            due("the greatest int", x.how(0, MAX), NONE);
            typeAll(x, "a(".repeat(19) + "123" + ")".repeat(19));
            due("the nineteenth", x.how(0, 18), 0);
            due("the twentieth", x.how(0, 19), NONE);
        });
        edge(22, "BAD;", x -> {
            typeAll(x, "g(123)");
            bounds("anger", 0, 40, v -> x.how(v, 0), BAD);
            due("i below 0", x.how(0, -1), BAD);
            due("the least i", x.how(0, MIN), BAD);
            due("anger, beyond the way", x.how(41, 9), BAD);
        });
        edge(22, "NOT: a FAULT.", x -> {
            for (String text : new String[] {"", "g", "g(123", "g(123),"}) {
                typeAll(x, text);
                due("how of " + text, x.how(0, 0), NOT);
                due("far beyond", x.how(0, 99), NOT);
                due("BAD anger goes ahead", x.how(41, 0), BAD);
                due("BAD i goes ahead", x.how(0, -1), BAD);
            }
        });
    }

    private static void temper() {
        edge(23, "TEMPER;", x -> {
            temperOf(x, "a(960,450)", 2);
            temperOf(x, "g(a(970,550),a(550))", 5);
            due("as reckoned with it", x.reckon(5, 0), 5);
            due("as reckoned with less", x.reckon(4, 0), 9);
        });
        edge(23, "NONE.", x -> {
            temperOf(x, "550", NONE);
            temperOf(x, "g(550,640)", NONE);
        });
        edge(23, "NOT: a FAULT.", x -> {
            due("empty", x.temper(), NOT);
            temperOf(x, "g(550", NOT);
            temperOf(x, "5500", NOT);
            temperOf(x, "x50", NOT);
        });
    }
}
