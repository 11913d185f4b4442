/** Sentences about peoples, things and stories: promises 24 to 29, and the terms that they use. */
final class PeoplesEdges extends Edges {
    static void run() {
        twoTerms();
        thingTerms();
        lookedTerms();
        storyTerms();
        two();
        thing();
        goes();
        looked();
        story();
        odds();
    }

    private static void twoTerms() {
        edge(TERMS, "TWO PEOPLES, in KIND 0:", x -> {
            tell(x, 0, 0, 1, 1, 2, 3);
            tell(x, 1, 1, 1, 9);
            tell(x, 1, 2, 1, 9);
            tell(x, 1, 3, 1, 9);
            due("other kinds are none", x.two(0, 1), NOT);
            tell(x, 1, 0, 0, 7, 8);
            due("one of ten", x.two(0, 1), 100000);
        });
        edge(TERMS, "of all choices of as many of the PAIRS of both together (14 at most: FULL) as the first has,", x -> {
            tell(x, 0, 0, 1, 0, 0, 0, 0, 0, 0, 0);
            tell(x, 1, 0, 1, 10, 10, 10, 10, 10, 10);
            due("thirteen: 1 of 1716", x.two(0, 1), 582);
            tell(x, 1, 0, 1, 10);
            due("fourteen: 2 of 3432", x.two(0, 1), 582);
            tell(x, 1, 0, 1, 10);
            due("fifteen", x.two(0, 1), FULL);
            due("fifteen, the other way", x.two(1, 0), FULL);
            x.takeBack(0, 0);
            due("those that count are fourteen", x.two(0, 1), 333);
            tell(x, 2, 0, 1, 5);
            due("of two others", x.two(2, 0), 142857);
        });
        edge(TERMS, "the share in which the amount by which MEANS differ is as great as it is, or greater;", x -> {
            tell(x, 0, 0, 1, 5, 5);
            tell(x, 1, 0, 1, 5, 5);
            due("no difference: all are as great", x.two(0, 1), 1000000);
            tell(x, 2, 0, 1, 0, 3);
            tell(x, 3, 0, 1, 2, 5);
            due("0 3 against 2 5: four of six", x.two(2, 3), 666666);
            due("either way", x.two(3, 2), 666666);
        });
        edge(TERMS, "in millionths, cut.", x -> {
            tell(x, 0, 0, 1, 0, 0);
            tell(x, 1, 0, 1, 9);
            due("one of three", x.two(0, 1), 333333);
            tell(x, 1, 0, 1, 8);
            due("two of six", x.two(0, 1), 333333);
            tell(x, 2, 0, 1, 8);
            tell(x, 3, 0, 1, 1, 4);
            due("a third, too", x.two(2, 3), 333333);
            tell(x, 3, 0, 1, 8);
            due("three of four", x.two(2, 3), 750000);
        });
        edge(TERMS, "the share in which the amount by which MEANS differ is as great as it is, or greater; in millionths, cut.", x -> allChoices());
    }

    /** All sizes of both peoples, choice by choice. */
    private static void allChoices() {
        for (int a = 1; a <= 13; a++) {
            for (int b = 1; a + b <= 14; b++) {
                TenCoins x = new TenCoins();
                int[] offers = new int[a + b];
                for (int k = 0; k < a + b; k++) {
                    offers[k] = (k * k * 7 + a * 3 + b + (k < a ? 2 : 0)) % 11;
                    x.pair(k < a ? 2 : 1, 0, offers[k], k % 2, 0);
                }
                due("two of " + a + " and " + b, x.two(2, 1), share(offers, a));
            }
        }
    }

    private static long share(int[] offers, int chosen) {
        int first = (1 << chosen) - 1;
        long as = apart(offers, first, chosen);
        long all = 0;
        long great = 0;
        for (int choice = 0; choice < 1 << offers.length; choice++) {
            if (Integer.bitCount(choice) == chosen) {
                all++;
                great += apart(offers, choice, chosen) >= as ? 1 : 0;
            }
        }
        return great * 1000000 / all;
    }

    private static long apart(int[] offers, int choice, int chosen) {
        int in = 0;
        int out = 0;
        for (int k = 0; k < offers.length; k++) {
            if ((choice >> k & 1) == 1) {
                in += offers[k];
            } else {
                out += offers[k];
            }
        }
        return Math.abs(in * (offers.length - chosen) - out * chosen);
    }

    private static void thingTerms() {
        edge(TERMS, "THINGS, 6 at most, were looked at:", x -> {
            for (int k = 0; k < 6; k++) {
                due("thing", x.thing(0, 0, 0, 0), k);
            }
            due("one more", x.thing(0, 0, 0, 0), FULL);
            due("count", x.count(5), 6);
        });
        edge(TERMS, "of each PEOPLE a number (0 to 99).", x -> {
            bounds("a", 0, 99, v -> x.thing(v, 5, 5, 5), BAD);
            bounds("b", 0, 99, v -> x.thing(5, v, 5, 5), BAD);
            TenCoins y = new TenCoins();
            bounds("c", 0, 99, v -> y.thing(5, 5, v, 5), BAD);
            bounds("d", 0, 99, v -> y.thing(5, 5, 5, v), BAD);
        });
        edge(TERMS, "GOES: over all pairs of PEOPLES that have a MEAN of KIND 0:", x -> {
            x.thing(1, 2, 3, 4);
            due("none", x.goes(0), 0);
            tell(x, 0, 0, 1, 1);
            due("one alone", x.goes(0), 0);
            tell(x, 3, 0, 1, 9);
            due("one pair", x.goes(0), 1);
            tell(x, 2, 0, 1, 5);
            due("three pairs", x.goes(0), 3);
            tell(x, 1, 1, 1, 2);
            tell(x, 1, 2, 1, 2);
            tell(x, 1, 3, 1, 2);
            due("other kinds are no mean", x.goes(0), 3);
            tell(x, 1, 0, 1, 2);
            due("six pairs", x.goes(0), 6);
            x.takeBack(0, 0);
            due("one taken back", x.goes(0), 3);
        });
        edge(TERMS, "how many rise and fall together (unlike both, the greater MEAN with the greater number), less how many the other way.", x -> {
            tell(x, 0, 0, 1, 1, 2);
            tell(x, 1, 0, 1, 3);
            tell(x, 2, 0, 1, 2, 4, 3);
            tell(x, 3, 0, 1, 9);
            x.thing(0, 1, 2, 3);
            due("like means of 1 and 2", x.goes(0), 5);
            x.thing(9, 8, 7, 6);
            due("all the other way", x.goes(1), -5);
            x.thing(4, 4, 4, 4);
            due("like numbers", x.goes(2), 0);
            x.thing(4, 4, 9, 2);
            due("one together, three the other way", x.goes(3), -2);
            x.thing(0, 99, 99, 0);
            due("two together, two the other way", x.goes(4), 0);
        });
    }

    private static void lookedTerms() {
        edge(TERMS, "LOOKED: of all orders of the MEANS over these PEOPLES the share in which the greatest amount of GOES of all THINGS is as great as it is, or greater;", x -> {
            x.thing(1, 2, 3, 4);
            tell(x, 0, 0, 1, 1);
            tell(x, 2, 0, 1, 2);
            due("both orders of two", x.looked(), 1000000);
            tell(x, 3, 0, 1, 3);
            due("two of six", x.looked(), 333333);
            tell(x, 1, 0, 1, 1);
            due("a like mean: four of 24", x.looked(), 166666);
            x.thing(7, 7, 7, 7);
            due("a thing that never goes", x.looked(), 166666);
        });
        edge(TERMS, "of all orders of the MEANS over these PEOPLES", x -> {
            x.thing(1, 1, 2, 5);
            tell(x, 0, 0, 1, 1);
            tell(x, 1, 0, 1, 2);
            tell(x, 2, 0, 1, 3);
            due("those without a mean keep out: four of six", x.looked(), 666666);
        });
        edge(TERMS, "the greatest amount of GOES of all THINGS", x -> {
            x.thing(0, 1, 1, 2);
            int[] means = {2, 1, 1, 3};
            for (int people = 0; people < 4; people++) {
                tell(x, people, 0, 1, means[people]);
            }
            due("one more together than the other way", x.goes(0), 1);
            due("four orders of 24 do not go at all", x.looked(), 833333);
        });
        edge(TERMS, "is as great as it is, or greater; in millionths, cut.", x -> {
            for (int people = 0; people < 4; people++) {
                tell(x, people, 0, 1, people);
            }
            x.thing(3, 2, 1, 0);
            due("two of 24, falling", x.looked(), 83333);
            x.thing(0, 0, 0, 0);
            due("another that never goes", x.looked(), 83333);
            x.thing(0, 2, 1, 3);
            due("four of 24", x.looked(), 166666);
            TenCoins y = new TenCoins();
            tell(y, 0, 0, 1, 5);
            tell(y, 1, 0, 1, 5);
            y.thing(1, 2, 3, 4);
            due("nothing goes: all are as great", y.looked(), 1000000);
        });
    }

    private static void storyTerms() {
        edge(TERMS, "STORIES 0 to 2 tell with how many sixteenths (1 to 15; 8 at first) somebody says no to OFFERS 0 to 3, 4 to 6, 7 to 10.", x -> {
            for (int wrong : outside(0, 2)) {
                due("story " + wrong, x.story(wrong, 0, 5), BAD);
                due("odds of " + wrong, x.odds(0, wrong, 0), told(BAD));
            }
            for (int wrong : outside(1, 15)) {
                due("sixteenths " + wrong, x.story(0, 0, wrong), BAD);
            }
            due("none at all", x.story(0, 0, 0), BAD);
            due("8 at first", x.story(0, 0, 1), 8);
            due("8 at first", x.story(0, 1, 15), 8);
            due("8 at first", x.story(0, 2, 2), 8);
            // Above of story 0 after a no, with 8 for both others: v by v and 16.
            int[][] due = {{1, 17}, {15, 31}, {1, 9}};
            for (int offer = 0; offer <= 10; offer++) {
                TenCoins y = new TenCoins();
                y.story(0, 0, 1);
                y.story(0, 1, 15);
                y.story(0, 2, 2);
                y.pair(0, 0, offer, 0, 0);
                int span = offer <= 3 ? 0 : offer <= 6 ? 1 : 2;
                fraction("a no to " + offer, y.odds(0, 0, 0), y.odds(0, 0, 1), due[span][0], due[span][1]);
            }
        });
        edge(TERMS, "ODDS of a STORY, by the answers of KIND 0 of a PEOPLE (14 at most: FULL), each STORY as likely ahead: a FRACTION.", x -> {
            fraction("no answers", x.odds(0, 0, 0), x.odds(0, 0, 1), 1, 3);
            x.story(1, 0, 12);
            tell(x, 0, 1, 1, 1);
            tell(x, 0, 2, 0, 1);
            tell(x, 0, 3, 0, 1);
            fraction("other kinds tell nothing", x.odds(0, 1, 0), x.odds(0, 1, 1), 1, 3);
            tell(x, 0, 0, 0, 1);
            fraction("a no", x.odds(0, 1, 0), x.odds(0, 1, 1), 3, 7);
            tell(x, 1, 0, 1, 1);
            fraction("a yes", x.odds(1, 1, 0), x.odds(1, 1, 1), 1, 5);
            fraction("of all", x.odds(-1, 1, 0), x.odds(-1, 1, 1), 3, 11);
            for (int k = 1; k < 14; k++) {
                x.pair(0, 0, 1, 0, 0);
            }
            due("fourteen", x.odds(0, 1, 0), 4782969);
            due("fourteen, below", x.odds(0, 1, 1), 4782969 + 2 * 16384);
            due("fifteen of all", x.odds(-1, 1, 0), told(FULL));
            x.pair(0, 0, 1, 0, 1);
            due("fifteen of one", x.odds(0, 1, 0), told(FULL));
            x.asOf(0);
            due("those that count", x.odds(0, 1, 0), 4782969);
        });
    }

    private static void two() {
        edge(24, "TWO PEOPLES.", x -> {
            tell(x, 3, 0, 1, 0, 0, 1);
            tell(x, 2, 0, 1, 10);
            due("one of four", x.two(3, 2), 250000);
            due("the other way", x.two(2, 3), 250000);
        });
        edge(24, "BAD: also one with itself;", x -> {
            for (int people = 0; people < 4; people++) {
                tell(x, people, 0, 1, 5);
            }
            for (int people = 0; people < 4; people++) {
                due("itself", x.two(people, people), BAD);
            }
            for (int wrong : outside(0, 3)) {
                due("first " + wrong, x.two(wrong, 0), BAD);
                due("second " + wrong, x.two(0, wrong), BAD);
                due("both " + wrong, x.two(wrong, wrong), BAD);
            }
            due("the least and the greatest", x.two(0, 3), 1000000);
            due("the greatest and the least", x.two(3, 0), 1000000);
        });
        edge(24, "NOT: one has none;", x -> {
            due("both", x.two(0, 1), NOT);
            due("BAD goes ahead", x.two(1, 1), BAD);
            tell(x, 0, 0, 1, 5);
            due("the second", x.two(0, 1), NOT);
            due("the first", x.two(1, 0), NOT);
            tell(x, 1, 0, 1, 5);
            due("neither", x.two(0, 1), 1000000);
            x.takeBack(1, 0);
            due("taken back", x.two(0, 1), NOT);
        });
        edge(24, "FULL.", x -> {
            for (int k = 0; k < 15; k++) {
                x.pair(0, 0, 5, 1, 0);
            }
            due("NOT goes ahead", x.two(0, 1), NOT);
            due("BAD goes ahead", x.two(0, 0), BAD);
            tell(x, 1, 0, 1, 5);
            due("sixteen", x.two(0, 1), FULL);
            x.takeBack(0, 0);
            due("fifteen", x.two(0, 1), FULL);
            x.takeBack(1, 0);
            due("fourteen", x.two(0, 1), 1000000);
            x.pair(0, 3, 5, 1, 0);
            due("another kind takes no room", x.two(0, 1), 1000000);
        });
    }

    private static void thing() {
        edge(25, "A THING more that was looked at, by four numbers, of PEOPLES 0 to 3: its number.", x -> {
            due("the first", x.thing(0, 0, 0, 0), 0);
            due("the second", x.thing(99, 99, 99, 99), 1);
            x.thing(100, 0, 0, 0);
            due("behind a refused one", x.thing(1, 2, 3, 5), 2);
            int[] means = {1, 2, 4, 3};
            for (int people = 0; people < 4; people++) {
                tell(x, people, 0, 1, means[people]);
            }
            due("each number is its people's", x.goes(2), 4);
        });
        edge(25, "BAD;", x -> {
            for (int place = 0; place < 4; place++) {
                for (int wrong : outside(0, 99)) {
                    int[] n = {5, 5, 5, 5};
                    n[place] = wrong;
                    due("number " + place + " is " + wrong, x.thing(n[0], n[1], n[2], n[3]), BAD);
                }
            }
            due("nothing was looked at", x.count(5), 0);
            due("the least and the greatest", x.thing(0, 99, 0, 99), 0);
        });
        edge(25, "FULL.", x -> {
            for (int k = 0; k < 6; k++) {
                x.thing(1, 2, 3, 4);
            }
            due("full", x.thing(1, 2, 3, 4), FULL);
            due("BAD goes ahead", x.thing(1, 2, 3, 100), BAD);
            due("no seventh", x.goes(6), -99);
        });
    }

    private static void goes() {
        edge(26, "GOES of a THING.", x -> {
            x.thing(2, 1, 0, 0);
            x.thing(1, 2, 0, 0);
            tell(x, 0, 0, 1, 5);
            tell(x, 1, 0, 1, 6);
            due("the first", x.goes(0), -1);
            due("the second", x.goes(1), 1);
            tell(x, 2, 0, 1, 7);
            due("the first of three", x.goes(0), -3);
            tell(x, 3, 0, 1, 7);
            due("the least that is no refusal", x.goes(0), -5);
        });
        edge(26, "BAD: -99.", x -> {
            due("none", x.goes(0), -99);
            x.thing(1, 2, 3, 4);
            x.thing(1, 2, 3, 4);
            bounds("thing", 0, 1, v -> x.goes(v), -99);
        });
    }

    private static void looked() {
        edge(27, "LOOKED.", x -> {
            x.thing(1, 2, 3, 4);
            tell(x, 0, 0, 1, 3);
            tell(x, 1, 0, 1, 2);
            tell(x, 2, 0, 1, 4);
            due("all but none go by one at least", x.looked(), 1000000);
            x.takeBack(1, 0);
            due("two means", x.looked(), 1000000);
        });
        edge(27, "NOT: no THINGS,", x -> {
            due("nothing", x.looked(), NOT);
            for (int people = 0; people < 4; people++) {
                tell(x, people, 0, 1, people);
            }
            due("four means", x.looked(), NOT);
            x.thing(1, 2, 3, 4);
            due("a thing", x.looked(), 83333);
        });
        edge(27, "or fewer than two PEOPLES have a MEAN.", x -> {
            x.thing(1, 2, 3, 4);
            due("none", x.looked(), NOT);
            tell(x, 2, 0, 1, 5, 6, 7);
            due("one", x.looked(), NOT);
            tell(x, 0, 1, 1, 5);
            tell(x, 1, 3, 1, 5);
            due("other kinds", x.looked(), NOT);
            tell(x, 0, 0, 1, 5);
            due("two", x.looked(), 1000000);
            x.takeBack(5, 0);
            due("one taken back", x.looked(), NOT);
        });
    }

    private static void story() {
        edge(28, "How many sixteenths a STORY has for a span (0 small, 1 middle, 2 large): what they were.", x -> {
            for (int story = 0; story < 3; story++) {
                for (int span = 0; span < 3; span++) {
                    due("at first", x.story(story, span, 1 + story * 3 + span), 8);
                }
            }
            for (int story = 0; story < 3; story++) {
                for (int span = 0; span < 3; span++) {
                    due("then", x.story(story, span, 15), 1 + story * 3 + span);
                }
            }
        });
        edge(28, "BAD.", x -> {
            bounds("story", 0, 2, v -> x.story(v, 0, 8), BAD);
            bounds("span", 0, 2, v -> x.story(0, v, 8), BAD);
            bounds("sixteenths", 1, 15, v -> x.story(0, 0, v), BAD);
            x.story(0, 0, 16);
            due("as it was", x.story(0, 0, 8), 15);
        });
    }

    private static void odds() {
        edge(29, "ODDS: above, below.", x -> {
            x.story(0, 2, 15);
            x.story(1, 2, 1);
            for (int k = 0; k < 14; k++) {
                x.pair(2, 0, 10, 0, 0);
            }
            // 15, 1 and 8 to the power of 14.
            long most = 29192926025390625L;
            long all = most + 1 + 4398046511104L;
            fraction("the most", x.odds(2, 0, 0), x.odds(2, 0, 1), lowest(most, all), lowest(all, most));
            fraction("the least", x.odds(2, 1, 0), x.odds(2, 1, 1), 1, all);
            TenCoins y = new TenCoins();
            y.story(0, 0, 1);
            y.story(1, 0, 1);
            y.story(2, 0, 1);
            for (int k = 0; k < 14; k++) {
                y.pair(2, 0, 3, 1, 0);
            }
            fraction("like stories", y.odds(2, 2, 0), y.odds(2, 2, 1), 1, 3);
        });
        edge(29, "BAD;", x -> {
            bounds("people", -1, 3, v -> x.odds(v, 0, 0), told(BAD));
            bounds("story", 0, 2, v -> x.odds(0, v, 0), told(BAD));
            bounds("what", 0, 1, v -> x.odds(0, 0, v), told(BAD));
        });
        edge(29, "FULL.", x -> {
            for (int k = 0; k < 15; k++) {
                x.pair(k % 2, 0, 5, 1, 0);
            }
            due("of all", x.odds(-1, 0, 0), told(FULL));
            due("of all, below", x.odds(-1, 2, 1), told(FULL));
            due("of one", x.odds(0, 0, 0), 1);
            due("BAD goes ahead", x.odds(-1, 3, 0), told(BAD));
            due("BAD what goes ahead", x.odds(-1, 0, 2), told(BAD));
        });
        edge(29, "(A refusal -x is the least long and x more.)", x -> {
            due("BAD", x.odds(4, 0, 0) - Long.MIN_VALUE, 2);
            for (int k = 0; k < 15; k++) {
                x.pair(0, 0, 5, 1, 0);
            }
            due("FULL", x.odds(0, 0, 0) - Long.MIN_VALUE, 4);
        });
    }

    private static long lowest(long number, long other) {
        return number / java.math.BigInteger.valueOf(number).gcd(java.math.BigInteger.valueOf(other)).longValue();
    }
}
