/** All that can be asked of an object, in parts, for some of the questions change it and it has 512 calls alone. */
final class Snapshot {
    static final int PARTS = 10;

    private Snapshot() {
    }

    static String of(TenCoins x, int part) {
        StringBuilder told = new StringBuilder();
        switch (part) {
            case 0: pairs(x, told); break;
            case 1: refused(x, told); break;
            case 2: rows(x, told); break;
            case 3: beliefsAndStories(x, told); break;
            case 4: gamesAndRounds(x, told); break;
            case 5: timesAndBacks(x, told); break;
            default: sheet(x, part - 6, told);
        }
        return told.toString();
    }

    private static void add(StringBuilder told, long answer) {
        told.append(answer).append(' ');
    }

    private static void pairs(TenCoins x, StringBuilder told) {
        for (int what = 0; what < 8; what++) {
            add(told, x.count(what));
        }
        add(told, x.digest());
        for (int people = -1; people < 4; people++) {
            for (int kind = 0; kind < 4; kind++) {
                for (int what = 0; what < 3; what++) {
                    add(told, x.many(people, kind, what));
                }
                add(told, x.mean(people, kind, 0));
                add(told, x.mean(people, kind, 1));
            }
            for (int which = 0; which < 3; which++) {
                add(told, x.moves(people, which, 0));
                add(told, x.moves(people, which, 1));
            }
        }
    }

    private static void refused(TenCoins x, StringBuilder told) {
        for (int people = -1; people < 4; people++) {
            for (int kind = 0; kind < 4; kind++) {
                for (int offer = 0; offer <= 10; offer++) {
                    add(told, x.refused(people, kind, offer, (people + kind + offer) & 1));
                }
            }
        }
    }

    private static void rows(TenCoins x, StringBuilder told) {
        for (int row = 0; row < 12; row++) {
            for (int what = 0; what < 3; what++) {
                add(told, x.line(row, what));
            }
        }
        for (int people = -1; people < 4; people++) {
            add(told, x.best(people));
            for (int offer = 0; offer <= 10; offer++) {
                add(told, x.taken(people, offer, 0));
                add(told, x.taken(people, offer, 1));
            }
        }
        for (int belief = 0; belief < 8; belief++) {
            add(told, x.hisBest(belief));
            for (int k = 0; k < 4; k++) {
                add(told, x.off(belief, k / 2, k % 2));
            }
        }
    }

    private static void beliefsAndStories(TenCoins x, StringBuilder told) {
        for (int people = -1; people < 4; people++) {
            for (int k = 0; k < 6; k++) {
                add(told, x.odds(people, k / 2, k % 2));
            }
        }
        for (int k = 0; k < 16; k++) {
            add(told, x.two(k / 4, k % 4));
        }
        for (int belief = 0; belief < 8; belief++) {
            for (int offer = 0; offer <= 10; offer++) {
                add(told, x.believe(belief, offer, 0));
            }
        }
        for (int k = 0; k < 9; k++) {
            add(told, x.story(k / 3, k % 3, 1));
        }
    }

    private static void gamesAndRounds(TenCoins x, StringBuilder told) {
        add(told, x.fault());
        add(told, x.temper());
        for (int anger = 0; anger <= 40; anger += 4) {
            for (int what = 0; what < 6; what++) {
                add(told, x.reckon(anger, what));
                add(told, x.how(anger, what));
            }
        }
        for (int k = 0; k < 25; k++) {
            add(told, x.misses(k / 5, k % 5));
        }
        for (int what = 0; what < 5; what++) {
            add(told, x.learnt(what));
        }
        for (int thing = 0; thing < 6; thing++) {
            add(told, x.goes(thing));
        }
        add(told, x.looked());
        // What the text holds behind its fault is seen by going on with it.
        add(told, x.type(')'));
        add(told, x.fault());
        add(told, x.wipe());
    }

    private static void timesAndBacks(TenCoins x, StringBuilder told) {
        for (int time = 0; time < 60; time++) {
            add(told, x.pair(0, 0, 5, 1, time));
        }
        for (int pair = 0; pair < 60; pair++) {
            add(told, x.takeBack(pair, 999));
        }
    }

    private static void sheet(TenCoins x, int s, StringBuilder told) {
        for (int form = 0; form < 3; form++) {
            for (int i = 0; i < 48; i++) {
                add(told, x.get(s, form, i));
            }
        }
        add(told, x.lose(s));
    }
}
