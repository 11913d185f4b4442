import java.util.Arrays;

/**
 * Ten coins that a giver may share with an answerer who says yes, or no, and then neither has any.
 * The numbered promises stand in the document; words in capitals there are the names here.
 */
public final class TenCoins {
    public static final int NONE = -1, BAD = -2, NOT = -3, FULL = -4;

    private static final int COINS = 10;
    private static final int OFFERS = COINS + 1;
    private static final int PEOPLES = 4;
    private static final int KINDS = 4;
    private static final int LAST_TIME = 999;
    private static final int MILLION = 1000000;

    private static final int ANSWER_COUNTS = 0;
    private static final int NONE_MAY_REFUSE = 1;
    private static final int BOX_GIVES = 2;
    private static final int MONTHS_PAY = 3;

    private static final int FEAR = 0;
    private static final int MONTH = 1;
    private static final int BOX = 2;

    private static final int NULL = 1;
    private static final int INDEX = 2;
    private static final int CAST = 3;
    private static final int STORE = 4;
    private static final int SIZE = 5;

    private static final int LEAST_INT = 1 << 31;
    private static final long LEAST_LONG = 1L << 63;
    // GOES may be BAD's own number, so a wrong THING has one that no GOES reaches.
    private static final int BAD_THING = -99;

    private final Pairs pairs = new Pairs();
    private final Tally first = new Tally();
    private final Tally second = new Tally();
    private final Rows rows = new Rows();
    private final Beliefs beliefs = new Beliefs();
    private final Game game = new Game();
    private final Choices choices = new Choices();
    private final Means means = new Means();
    private final Things things = new Things();
    private final Stories stories = new Stories();
    private final Rounds rounds = new Rounds();
    private final Sheets sheets = new Sheets();

    public TenCoins() {
    }

    // ---- pairs

    public int pair(int people, int kind, int offer, int answer, int time) {
        if (!isPeople(people) || !isKind(kind) || !isOffer(offer) || !isAnswer(answer)) {
            return BAD;
        }
        if (kind == NONE_MAY_REFUSE && answer == 0 || !pairs.mayBeTold(time)) {
            return BAD;
        }
        return pairs.add(people, kind, offer, answer, time);
    }

    public int read(int s, int people, int kind, int time) {
        if (!isSheet(s) || !isPeople(people) || !isKind(kind) || !pairs.mayBeTold(time)) {
            return BAD;
        }
        if (sheets.isLost(s)) {
            return sheets.found(NULL);
        }
        int whole = sheets.sizeOf(s) / 2;
        for (int k = 0; k < whole; k++) {
            if (pair(people, kind, sheets.item(s, 2 * k), sheets.item(s, 2 * k + 1), time) < 0) {
                return k;
            }
        }
        return whole;
    }

    public int takeBack(int pair, int time) {
        if (!pairs.has(pair) || !pairs.mayBeTold(time)) {
            return BAD;
        }
        return pairs.withdraw(pair, time);
    }

    public int asOf(int time) {
        if (!isTime(time)) {
            return BAD;
        }
        int before = pairs.asOfTime;
        pairs.asOfTime = time;
        return before;
    }

    public int many(int people, int kind, int what) {
        if (!isPeopleOrAll(people) || !isKind(kind) || !isWithin(what, 2)) {
            return BAD;
        }
        pairs.tally(people, kind, first);
        if (what == 0) {
            return first.many;
        }
        if (what == 1) {
            return first.noes;
        }
        return first.many == 0 ? NOT : first.middle();
    }

    public long mean(int people, int kind, int what) {
        if (!isPeopleOrAll(people) || !isKind(kind) || !isPart(what)) {
            return asLong(BAD);
        }
        pairs.tally(people, kind, first);
        if (first.many == 0) {
            return asLong(NOT);
        }
        return fraction(first.sum, first.many, what);
    }

    public long refused(int people, int kind, int offer, int what) {
        if (!isPeopleOrAll(people) || !isKind(kind) || !isOffer(offer) || !isPart(what)) {
            return asLong(BAD);
        }
        pairs.tally(people, kind, first);
        if (first.offered[offer] == 0) {
            return asLong(NOT);
        }
        return fraction(first.refused[offer], first.offered[offer], what);
    }

    public long moves(int people, int which, int what) {
        if (!isPeopleOrAll(people) || !isWithin(which, BOX) || !isPart(what)) {
            return asLong(BAD);
        }
        pairs.tally(people, which == MONTH ? MONTHS_PAY : ANSWER_COUNTS, first);
        pairs.tally(people, lessKind(which), second);
        if (first.many == 0 || second.many == 0) {
            return asLong(NOT);
        }
        int greater = which == BOX ? first.noes : first.sum;
        int lesser = which == BOX ? second.noes : second.sum;
        return fraction(greater * second.many - lesser * first.many, first.many * second.many, what);
    }

    private static int lessKind(int which) {
        if (which == FEAR) {
            return NONE_MAY_REFUSE;
        }
        return which == MONTH ? ANSWER_COUNTS : BOX_GIVES;
    }

    // ---- rows, beliefs

    public int row(int people, int bits) {
        if (!isPeople(people) || !isWithin(bits, (1 << OFFERS) - 1)) {
            return BAD;
        }
        return rows.add(people, bits);
    }

    public int line(int row, int what) {
        if (!rows.has(row) || !isWithin(what, 2)) {
            return BAD;
        }
        rows.mend(row);
        if (what == 0) {
            return rows.mended;
        }
        return what == 1 ? rows.least : rows.greatest;
    }

    public long taken(int people, int offer, int what) {
        if (!isPeopleOrAll(people) || !isOffer(offer) || !isPart(what)) {
            return asLong(BAD);
        }
        int all = rows.howMany(people);
        if (all == 0) {
            return asLong(NOT);
        }
        return fraction(rows.yeses(people, offer), all, what);
    }

    public int best(int people) {
        if (!isPeopleOrAll(people)) {
            return BAD;
        }
        return rows.howMany(people) == 0 ? NOT : rows.bestOffer(people);
    }

    public int belief(int people) {
        if (!isPeople(people)) {
            return BAD;
        }
        return beliefs.add(people);
    }

    public int believe(int belief, int offer, int v) {
        if (!beliefs.has(belief) || !isOffer(offer) || !isWithin(v, COINS)) {
            return BAD;
        }
        return beliefs.change(belief, offer, v);
    }

    public int hisBest(int belief) {
        if (!beliefs.has(belief)) {
            return BAD;
        }
        return beliefs.bestOffer(belief);
    }

    public long off(int belief, int which, int what) {
        if (!beliefs.has(belief) || !isWithin(which, 1) || !isPart(what)) {
            return asLong(BAD);
        }
        int people = beliefs.peopleOf[belief];
        int all = rows.howMany(people);
        if (all == 0) {
            return asLong(NOT);
        }
        if (which == 0) {
            return fraction(amountsOff(belief, people, all), COINS * all, what);
        }
        int cost = rows.bring(people, rows.bestOffer(people)) - rows.bring(people, beliefs.bestOffer(belief));
        return fraction(cost, all, what);
    }

    private int amountsOff(int belief, int people, int all) {
        int together = 0;
        for (int offer = 0; offer < OFFERS; offer++) {
            together += Math.abs(beliefs.said(belief, offer) * all - COINS * rows.yeses(people, offer));
        }
        return together;
    }

    // ---- games

    public int type(int b) {
        if (!isWithin(b, 255)) {
            return BAD;
        }
        return game.add(b);
    }

    public int wipe() {
        return game.clear();
    }

    public int fault() {
        return game.faultPlace();
    }

    public int reckon(int anger, int what) {
        if (!isWithin(anger, Game.MOST_ANGER) || !isWithin(what, 5)) {
            return BAD;
        }
        if (game.faultPlace() != NONE) {
            return NOT;
        }
        if (what == 4) {
            return game.ends;
        }
        if (what == 5) {
            return game.nodes - game.ends;
        }
        game.solve(anger);
        return what == 3 ? game.wayLength() : game.gets(what);
    }

    public int how(int anger, int i) {
        if (!isWithin(anger, Game.MOST_ANGER) || i < 0) {
            return BAD;
        }
        if (game.faultPlace() != NONE) {
            return NOT;
        }
        game.solve(anger);
        return game.choiceAt(i);
    }

    public int temper() {
        if (game.faultPlace() != NONE) {
            return NOT;
        }
        return game.leastAngerThatMatters();
    }

    // ---- peoples, things, stories

    public int two(int a, int b) {
        if (!isPeople(a) || !isPeople(b) || a == b) {
            return BAD;
        }
        pairs.tally(a, ANSWER_COUNTS, first);
        pairs.tally(b, ANSWER_COUNTS, second);
        if (first.many == 0 || second.many == 0) {
            return NOT;
        }
        if (first.many + second.many > Choices.MOST) {
            return FULL;
        }
        choices.clear();
        choices.pool(first);
        choices.pool(second);
        return choices.asFarApart(first.many <= second.many ? first : second);
    }

    public int thing(int a, int b, int c, int d) {
        if (!isWithin(a, 99) || !isWithin(b, 99) || !isWithin(c, 99) || !isWithin(d, 99)) {
            return BAD;
        }
        return things.add(a, b, c, d);
    }

    public int goes(int thing) {
        if (!things.has(thing)) {
            return BAD_THING;
        }
        learnMeans();
        return things.together(thing, means);
    }

    public int looked() {
        learnMeans();
        if (things.size == 0 || means.known < 2) {
            return NOT;
        }
        int found = things.greatest(means);
        int orders = 0;
        int asGreat = 0;
        for (int code = 0; code < Means.CODES; code++) {
            if (means.reorder(code)) {
                orders++;
                asGreat += things.greatest(means) >= found ? 1 : 0;
            }
        }
        return millionths(asGreat, orders);
    }

    private void learnMeans() {
        means.clear();
        for (int people = 0; people < PEOPLES; people++) {
            pairs.tally(people, ANSWER_COUNTS, first);
            means.learn(people, first);
        }
    }

    public int story(int story, int span, int v) {
        if (!isWithin(story, Stories.MOST - 1) || !isWithin(span, Stories.SPANS - 1)) {
            return BAD;
        }
        if (v < 1 || v > 15) {
            return BAD;
        }
        return stories.change(story, span, v);
    }

    public long odds(int people, int story, int what) {
        if (!isPeopleOrAll(people) || !isWithin(story, Stories.MOST - 1) || !isPart(what)) {
            return asLong(BAD);
        }
        pairs.tally(people, ANSWER_COUNTS, first);
        if (first.many > Stories.MOST_ANSWERS) {
            return asLong(FULL);
        }
        long all = 0;
        for (int each = 0; each < Stories.MOST; each++) {
            all += stories.likely(each, first);
        }
        return fraction(stories.likely(story, first), all, what);
    }

    // ---- rounds

    public int round(int offer, int answer) {
        if (!isOffer(offer) || !isAnswer(answer)) {
            return BAD;
        }
        return rounds.add(offer, answer);
    }

    public int forget() {
        int before = rounds.size;
        rounds.size = 0;
        return before;
    }

    public int misses(int u, int d) {
        if (!isWithin(u, Rounds.MOST_STEP) || !isWithin(d, Rounds.MOST_STEP)) {
            return BAD;
        }
        return rounds.missesOf(u, d);
    }

    public int learnt(int what) {
        if (!isWithin(what, 4)) {
            return BAD;
        }
        if (what == 3) {
            return rounds.got();
        }
        if (what == 4) {
            return rounds.could();
        }
        if (rounds.size < 2) {
            return NOT;
        }
        rounds.learn();
        if (what == 2) {
            return rounds.fewest;
        }
        return what == 0 ? rounds.lawUp : rounds.lawDown;
    }

    // ---- sheets

    public int sheet(int s, int form, int n) {
        if (!isSheet(s) || !isForm(form) || n > Sheets.ITEMS) {
            return BAD;
        }
        if (n < 0) {
            return sheets.found(SIZE);
        }
        sheets.renew(s, form, n);
        return n;
    }

    public int lose(int s) {
        if (!isSheet(s)) {
            return BAD;
        }
        if (sheets.isLost(s)) {
            return sheets.found(NULL);
        }
        return sheets.drop(s);
    }

    public int put(int s, int form, int i, int v) {
        if (!isSheet(s) || !isForm(form)) {
            return BAD;
        }
        int finding = sheets.findingAt(s, form, i);
        if (finding != 0) {
            return sheets.found(finding);
        }
        sheets.keep(s, i, v);
        return 1;
    }

    public int get(int s, int form, int i) {
        if (!isSheet(s) || !isForm(form)) {
            return LEAST_INT;
        }
        int finding = sheets.findingAt(s, form, i);
        if (finding != 0) {
            sheets.found(finding);
            return LEAST_INT;
        }
        return sheets.item(s, i);
    }

    public int copy(int s, int i, int t, int j, int n) {
        if (!isSheet(s) || !isSheet(t)) {
            return BAD;
        }
        if (sheets.isLost(s) || sheets.isLost(t)) {
            return sheets.found(NULL);
        }
        if (sheets.formOf(s) != sheets.formOf(t)) {
            return sheets.found(STORE);
        }
        if (!sheets.hasSpan(s, i, n) || !sheets.hasSpan(t, j, n)) {
            return sheets.found(INDEX);
        }
        sheets.move(s, i, t, j, n);
        return 1;
    }

    public int write(int people, int kind, int s) {
        if (!isPeopleOrAll(people) || !isKind(kind) || !isSheet(s)) {
            return BAD;
        }
        if (sheets.isLost(s)) {
            return sheets.found(NULL);
        }
        int room = sheets.sizeOf(s);
        int written = 0;
        for (int pair = 0; pair < pairs.size && written < room; pair++) {
            if (pairs.isOf(pair, people, kind) && pairs.counts(pair)) {
                sheets.keep(s, written, pairs.offer[pair]);
                written++;
            }
        }
        return written;
    }

    public int count(int what) {
        switch (what) {
            case 0: return pairs.size;
            case 1: return pairs.howManyCount();
            case 2: return rows.size;
            case 3: return beliefs.size;
            case 4: return game.length;
            case 5: return things.size;
            case 6: return rounds.size;
            case 7: return pairs.asOfTime;
            case 8: return sheets.latestFinding;
            default: return BAD;
        }
    }

    public long digest() {
        long h = 17;
        for (int what = 0; what <= 7; what++) {
            h = mix(h, count(what));
        }
        h = mix(h, fault());
        h = mixPairs(h);
        h = mixRowsAndBeliefs(h);
        h = mixGame(h);
        for (int thing = 0; thing < things.size; thing++) {
            h = mix(h, goes(thing));
        }
        h = mix(h, looked());
        for (int what = 0; what <= 4; what++) {
            h = mix(h, learnt(what));
        }
        return h;
    }

    private long mixPairs(long start) {
        long h = start;
        for (int people = NONE; people < PEOPLES; people++) {
            for (int kind = 0; kind < KINDS; kind++) {
                h = mix(h, many(people, kind, 0));
                h = mix(h, many(people, kind, 1));
            }
        }
        h = mix(h, mean(NONE, ANSWER_COUNTS, 0));
        return mix(h, mean(NONE, ANSWER_COUNTS, 1));
    }

    private long mixRowsAndBeliefs(long start) {
        long h = mix(start, best(NONE));
        for (int row = 0; row < rows.size; row++) {
            for (int what = 0; what <= 2; what++) {
                h = mix(h, line(row, what));
            }
        }
        for (int belief = 0; belief < beliefs.size; belief++) {
            h = mix(h, hisBest(belief));
        }
        return h;
    }

    private long mixGame(long start) {
        long h = start;
        for (int what = 0; what <= 5; what++) {
            h = mix(h, reckon(0, what));
        }
        for (int what = 0; what <= 2; what++) {
            h = mix(h, reckon(4, what));
        }
        return mix(h, temper());
    }

    private static long mix(long h, long value) {
        return 31 * h + value;
    }

    // ---- what numbers may be

    private static boolean isWithin(int number, int most) {
        return number >= 0 && number <= most;
    }

    private static boolean isPeople(int people) {
        return isWithin(people, PEOPLES - 1);
    }

    private static boolean isPeopleOrAll(int people) {
        return people == NONE || isPeople(people);
    }

    private static boolean isKind(int kind) {
        return isWithin(kind, KINDS - 1);
    }

    private static boolean isOffer(int offer) {
        return isWithin(offer, COINS);
    }

    private static boolean isAnswer(int answer) {
        return isWithin(answer, 1);
    }

    private static boolean isTime(int time) {
        return isWithin(time, LAST_TIME);
    }

    private static boolean isPart(int what) {
        return isWithin(what, 1);
    }

    private static boolean isSheet(int s) {
        return isWithin(s, Sheets.MOST - 1);
    }

    private static boolean isForm(int form) {
        return isWithin(form, Sheets.FORMS - 1);
    }

    // ---- how numbers are told

    private static long asLong(int refusal) {
        return LEAST_LONG - refusal;
    }

    private static long fraction(long above, long below, int part) {
        long common = greatestDivisor(Math.abs(above), below);
        if (common == 0) {
            return 0;
        }
        return (part == 0 ? above : below) / common;
    }

    private static long greatestDivisor(long a, long b) {
        long one = a;
        long other = b;
        // Longs need fewer than a hundred steps.
        for (int step = 0; step < 200 && other != 0; step++) {
            long rest = one % other;
            one = other;
            other = rest;
        }
        return one;
    }

    private static int millionths(int share, int all) {
        if (all == 0) {
            return 0;
        }
        return (int) ((long) MILLION * share / all);
    }

    private static int firstGreatest(int[] brings) {
        int best = 0;
        for (int offer = 1; offer < brings.length; offer++) {
            if (brings[offer] > brings[best]) {
                best = offer;
            }
        }
        return best;
    }

    /** Offers and answers in the order in which they were told. */
    private static final class Pairs {
        private static final int MOST = 60;
        private static final int NEVER = LAST_TIME + 1;

        private final int[] people = new int[MOST];
        private final int[] kind = new int[MOST];
        private final int[] offer = new int[MOST];
        private final int[] answer = new int[MOST];
        private final int[] toldAt = new int[MOST];
        private final int[] backAt = new int[MOST];
        private int size;
        private int lastTime;
        private int asOfTime = LAST_TIME;

        private boolean mayBeTold(int time) {
            return isTime(time) && time >= lastTime;
        }

        private boolean has(int pair) {
            return pair >= 0 && pair < size;
        }

        private int add(int itsPeople, int itsKind, int itsOffer, int itsAnswer, int time) {
            if (size >= MOST) {
                return FULL;
            }
            people[size] = itsPeople;
            kind[size] = itsKind;
            offer[size] = itsOffer;
            answer[size] = itsAnswer;
            toldAt[size] = time;
            backAt[size] = NEVER;
            lastTime = time;
            size++;
            return size - 1;
        }

        private int withdraw(int pair, int time) {
            if (backAt[pair] != NEVER) {
                return NOT;
            }
            backAt[pair] = time;
            lastTime = time;
            return 1;
        }

        private boolean counts(int pair) {
            return toldAt[pair] <= asOfTime && backAt[pair] > asOfTime;
        }

        private boolean isOf(int pair, int ofPeople, int ofKind) {
            return kind[pair] == ofKind && (ofPeople == NONE || people[pair] == ofPeople);
        }

        private int howManyCount() {
            int counting = 0;
            for (int pair = 0; pair < size; pair++) {
                counting += counts(pair) ? 1 : 0;
            }
            return counting;
        }

        private void tally(int ofPeople, int ofKind, Tally into) {
            into.clear();
            for (int pair = 0; pair < size; pair++) {
                if (isOf(pair, ofPeople, ofKind) && counts(pair)) {
                    into.add(offer[pair], answer[pair]);
                }
            }
        }
    }

    /** What all questions about a people and a kind need to know of its pairs. */
    private static final class Tally {
        private final int[] offered = new int[OFFERS];
        private final int[] refused = new int[OFFERS];
        private int many;
        private int noes;
        private int sum;

        private void clear() {
            Arrays.fill(offered, 0);
            Arrays.fill(refused, 0);
            many = 0;
            noes = 0;
            sum = 0;
        }

        private void add(int offer, int answer) {
            int no = 1 - answer;
            offered[offer]++;
            refused[offer] += no;
            many++;
            noes += no;
            sum += offer;
        }

        private int middle() {
            int upTo = 0;
            for (int offer = 0; offer < OFFERS; offer++) {
                upTo += offered[offer];
                if (2 * upTo >= many) {
                    return offer;
                }
            }
            return COINS;
        }
    }

    /** Who would take which offers. */
    private static final class Rows {
        private static final int MOST = 12;

        private final int[] people = new int[MOST];
        private final int[] bits = new int[MOST];
        private final int[] brings = new int[OFFERS];
        private int size;
        private int mended;
        private int least;
        private int greatest;

        private boolean has(int row) {
            return row >= 0 && row < size;
        }

        private int add(int itsPeople, int itsBits) {
            if (size >= MOST) {
                return FULL;
            }
            people[size] = itsPeople;
            bits[size] = itsBits;
            size++;
            return size - 1;
        }

        private void mend(int row) {
            mended = OFFERS + 1;
            for (int from = 0; from < OFFERS; from++) {
                // From the greater last one down: only fewer turns displace what was found.
                for (int to = COINS; to >= from; to--) {
                    int whole = ((1 << (to - from + 1)) - 1) << from;
                    int turned = Integer.bitCount(bits[row] ^ whole);
                    if (turned < mended) {
                        mended = turned;
                        least = from;
                        greatest = to;
                    }
                }
            }
        }

        private boolean isOf(int row, int ofPeople) {
            return ofPeople == NONE || people[row] == ofPeople;
        }

        private int howMany(int ofPeople) {
            int found = 0;
            for (int row = 0; row < size; row++) {
                found += isOf(row, ofPeople) ? 1 : 0;
            }
            return found;
        }

        private int yeses(int ofPeople, int offer) {
            int found = 0;
            for (int row = 0; row < size; row++) {
                if (isOf(row, ofPeople)) {
                    found += (bits[row] >> offer) & 1;
                }
            }
            return found;
        }

        /** What the offer leaves its giver from all these rows together. */
        private int bring(int ofPeople, int offer) {
            return (COINS - offer) * yeses(ofPeople, offer);
        }

        private int bestOffer(int ofPeople) {
            for (int offer = 0; offer < OFFERS; offer++) {
                brings[offer] = bring(ofPeople, offer);
            }
            return firstGreatest(brings);
        }
    }

    /** What givers think that others would take. */
    private static final class Beliefs {
        private static final int MOST = 8;

        private final int[] peopleOf = new int[MOST];
        private final int[] says = new int[MOST * OFFERS];
        private final int[] brings = new int[OFFERS];
        private int size;

        private boolean has(int belief) {
            return belief >= 0 && belief < size;
        }

        private int add(int people) {
            if (size >= MOST) {
                return FULL;
            }
            peopleOf[size] = people;
            size++;
            return size - 1;
        }

        private int said(int belief, int offer) {
            return says[belief * OFFERS + offer];
        }

        private int change(int belief, int offer, int v) {
            int before = said(belief, offer);
            says[belief * OFFERS + offer] = v;
            return before;
        }

        private int bestOffer(int belief) {
            for (int offer = 0; offer < OFFERS; offer++) {
                brings[offer] = (COINS - offer) * said(belief, offer);
            }
            return firstGreatest(brings);
        }
    }

    /** A text, read byte by byte into nodes that stand in its own order: each behind the one it is in. */
    private static final class Game {
        private static final int MOST = 60;
        private static final int MOST_ANGER = 40;
        private static final int MOST_KIDS = 4;
        private static final int PLAYERS = 3;

        private static final int NODE = 0;
        private static final int BRACKET = 1;
        private static final int SECOND_FIGURE = 2;
        private static final int THIRD_FIGURE = 3;
        private static final int BEHIND_NODE = 4;

        private final int[] owner = new int[MOST];
        private final int[] within = new int[MOST];
        private final int[] place = new int[MOST];
        private final int[] kids = new int[MOST];
        private final int[] figures = new int[MOST * PLAYERS];
        private final int[] pick = new int[MOST];
        private final int[] end = new int[MOST];
        private int length;
        private int broken = NONE;
        private int awaits = NODE;
        private int open = NONE;
        private int nodes;
        private int ends;

        private int add(int b) {
            if (length >= MOST) {
                return FULL;
            }
            if (broken == NONE && !goesOn(b)) {
                broken = length;
            }
            length++;
            return length;
        }

        private int clear() {
            int before = length;
            length = 0;
            broken = NONE;
            awaits = NODE;
            open = NONE;
            nodes = 0;
            ends = 0;
            return before;
        }

        private int faultPlace() {
            if (broken != NONE) {
                return broken;
            }
            return awaits == BEHIND_NODE && open == NONE ? NONE : length;
        }

        private boolean goesOn(int b) {
            switch (awaits) {
                case NODE: return beginsNode(b);
                case BRACKET: return opens(b);
                case SECOND_FIGURE: return isNextFigure(b, 1, THIRD_FIGURE);
                case THIRD_FIGURE: return isNextFigure(b, 2, BEHIND_NODE);
                default: return followsNode(b);
            }
        }

        private boolean beginsNode(int b) {
            int player = playerOf(b);
            if (player == NONE && !isFigure(b)) {
                return false;
            }
            startNode(player);
            if (player == NONE) {
                ends++;
                return isNextFigure(b, 0, SECOND_FIGURE);
            }
            awaits = BRACKET;
            return true;
        }

        private void startNode(int player) {
            // There is room: each node begins with a byte of its own, and there is a place for each byte of the text.
            owner[nodes] = player;
            within[nodes] = open;
            kids[nodes] = 0;
            if (open != NONE) {
                place[nodes] = kids[open];
                kids[open]++;
            }
            nodes++;
        }

        private boolean opens(int b) {
            if (b != '(') {
                return false;
            }
            open = nodes - 1;
            awaits = NODE;
            return true;
        }

        private boolean isNextFigure(int b, int player, int awaitsThen) {
            if (!isFigure(b)) {
                return false;
            }
            figures[(nodes - 1) * PLAYERS + player] = b - '0';
            awaits = awaitsThen;
            return true;
        }

        private boolean followsNode(int b) {
            if (open == NONE) {
                return false;
            }
            if (b == ',' && kids[open] < MOST_KIDS) {
                awaits = NODE;
                return true;
            }
            if (b == ')') {
                open = within[open];
                return true;
            }
            return false;
        }

        private static boolean isFigure(int b) {
            return b >= '0' && b <= '9';
        }

        private static int playerOf(int b) {
            switch (b) {
                case 'g': return 0;
                case 'a': return 1;
                case 't': return 2;
                default: return NONE;
            }
        }

        /** Needs a text without a fault. */
        private void solve(int anger) {
            Arrays.fill(pick, NONE);
            // Backwards, so that a node is settled ahead of the one it is in.
            for (int node = nodes - 1; node >= 0; node--) {
                end[node] = pick[node] == NONE ? node : end[pick[node]];
                int up = within[node];
                // Like is enough, for what was picked so far stands behind the node, and the first is to be taken.
                if (up != NONE
                    && (pick[up] == NONE || worth(node, owner[up], anger) >= worth(pick[up], owner[up], anger))) {
                    pick[up] = node;
                }
            }
        }

        /** Of the end that a settled node comes to. */
        private int worth(int node, int player, int anger) {
            int start = end[node] * PLAYERS;
            int own = figures[start + player];
            int most = own;
            for (int other = 0; other < PLAYERS; other++) {
                most = Math.max(most, figures[start + other]);
            }
            return 4 * own - anger * (most - own);
        }

        private int gets(int player) {
            return figures[end[0] * PLAYERS + player];
        }

        private int wayLength() {
            int letters = 0;
            int node = 0;
            for (int step = 0; step < nodes && pick[node] != NONE; step++) {
                letters++;
                node = pick[node];
            }
            return letters;
        }

        private int choiceAt(int i) {
            int node = 0;
            for (int step = 0; step < nodes && pick[node] != NONE; step++) {
                node = pick[node];
                if (step == i) {
                    return place[node];
                }
            }
            return NONE;
        }

        private int leastAngerThatMatters() {
            solve(0);
            int calm = end[0];
            for (int anger = 1; anger <= MOST_ANGER; anger++) {
                solve(anger);
                if (end[0] != calm) {
                    return anger;
                }
            }
            return NONE;
        }
    }

    /** How many choices of so many pairs have which sum: there are far fewer sums than choices. */
    private static final class Choices {
        private static final int MOST = 14;
        // The lesser people has at most half of all, and what it has settles the rest.
        private static final int CHOSEN = MOST / 2;
        private static final int SUMS = CHOSEN * COINS + 1;

        private final int[] ways = new int[(CHOSEN + 1) * SUMS];
        private int pooled;
        private int total;

        private void clear() {
            Arrays.fill(ways, 0);
            ways[0] = 1;
            pooled = 0;
            total = 0;
        }

        private void pool(Tally tally) {
            for (int offer = 0; offer < OFFERS; offer++) {
                for (int k = 0; k < tally.offered[offer]; k++) {
                    poolOne(offer);
                }
            }
        }

        private void poolOne(int offer) {
            for (int chosen = CHOSEN; chosen > 0; chosen--) {
                for (int sum = offer; sum < SUMS; sum++) {
                    ways[chosen * SUMS + sum] += ways[(chosen - 1) * SUMS + sum - offer];
                }
            }
            pooled++;
            total += offer;
        }

        /** The share of choices in which the means are as far apart as by the choice of the lesser people. */
        private int asFarApart(Tally lesser) {
            if (lesser.many > CHOSEN) {
                return 0;
            }
            int apart = apart(lesser.many, lesser.sum);
            int all = 0;
            int asFar = 0;
            for (int sum = 0; sum < SUMS; sum++) {
                int found = ways[lesser.many * SUMS + sum];
                all += found;
                asFar += apart(lesser.many, sum) >= apart ? found : 0;
            }
            return millionths(asFar, all);
        }

        /** In parts that are alike for all choices of so many. */
        private int apart(int chosen, int sum) {
            return Math.abs(sum * pooled - total * chosen);
        }
    }

    /** Whose mean is which, as it was told or in another order. */
    private static final class Means {
        private static final int CODES = 1 << (2 * PEOPLES);

        private final int[] sum = new int[PEOPLES];
        private final int[] many = new int[PEOPLES];
        private final int[] from = new int[PEOPLES];
        private int known;

        private void clear() {
            known = 0;
        }

        private void learn(int people, Tally tally) {
            sum[people] = tally.sum;
            many[people] = tally.many;
            from[people] = people;
            known += tally.many > 0 ? 1 : 0;
        }

        private boolean isKnown(int people) {
            return many[people] > 0;
        }

        /** Two bits of the code say whose mean a people has; those without one keep theirs. */
        private boolean reorder(int code) {
            int used = 0;
            for (int people = 0; people < PEOPLES; people++) {
                int whose = (code >> (2 * people)) & (PEOPLES - 1);
                if ((used >> whose & 1) == 1 || !isKnown(people) && whose != people) {
                    return false;
                }
                used |= 1 << whose;
                from[people] = whose;
            }
            return true;
        }

        private int order(int one, int other) {
            int a = from[one];
            int b = from[other];
            return Integer.compare(sum[a] * many[b], sum[b] * many[a]);
        }
    }

    /** All that was looked at, a number for each people. */
    private static final class Things {
        private static final int MOST = 6;

        private final int[] numbers = new int[MOST * PEOPLES];
        private int size;

        private boolean has(int thing) {
            return thing >= 0 && thing < size;
        }

        private int add(int a, int b, int c, int d) {
            if (size >= MOST) {
                return FULL;
            }
            int start = size * PEOPLES;
            numbers[start] = a;
            numbers[start + 1] = b;
            numbers[start + 2] = c;
            numbers[start + 3] = d;
            size++;
            return size - 1;
        }

        private int together(int thing, Means means) {
            int start = thing * PEOPLES;
            int together = 0;
            for (int one = 0; one < PEOPLES; one++) {
                for (int other = 0; other < one; other++) {
                    if (means.isKnown(one) && means.isKnown(other)) {
                        int numberOrder = Integer.compare(numbers[start + one], numbers[start + other]);
                        together += numberOrder * means.order(one, other);
                    }
                }
            }
            return together;
        }

        private int greatest(Means means) {
            int greatest = 0;
            for (int thing = 0; thing < size; thing++) {
                greatest = Math.max(greatest, Math.abs(together(thing, means)));
            }
            return greatest;
        }
    }

    /** With how many sixteenths a no comes, by how large the offer is. */
    private static final class Stories {
        private static final int MOST = 3;
        private static final int SPANS = 3;
        private static final int SIXTEENTHS = 16;
        // Fifteen to this power, three times, still is a long.
        private static final int MOST_ANSWERS = 14;

        private final int[] noes = {8, 8, 8, 8, 8, 8, 8, 8, 8};

        private int change(int story, int span, int v) {
            int before = noes[story * SPANS + span];
            noes[story * SPANS + span] = v;
            return before;
        }

        private static int spanOf(int offer) {
            if (offer <= 3) {
                return 0;
            }
            return offer <= 6 ? 1 : 2;
        }

        /** In sixteenths to the power of how many answers there are. */
        private long likely(int story, Tally answers) {
            long likely = 1;
            for (int offer = 0; offer < OFFERS; offer++) {
                int no = noes[story * SPANS + spanOf(offer)];
                for (int k = 0; k < answers.offered[offer]; k++) {
                    likely *= k < answers.refused[offer] ? no : SIXTEENTHS - no;
                }
            }
            return likely;
        }
    }

    /** Offers of one giver, one after the other, and what was said to them. */
    private static final class Rounds {
        private static final int MOST = 24;
        private static final int MOST_STEP = 4;

        private final int[] offers = new int[MOST];
        private final int[] answers = new int[MOST];
        private int size;
        private int lawUp;
        private int lawDown;
        private int fewest;

        private int add(int offer, int answer) {
            if (size >= MOST) {
                return FULL;
            }
            offers[size] = offer;
            answers[size] = answer;
            size++;
            return size;
        }

        private int missesOf(int u, int d) {
            int together = 0;
            for (int round = 1; round < size; round++) {
                int step = answers[round - 1] == 1 ? -d : u;
                int due = Math.max(0, Math.min(COINS, offers[round - 1] + step));
                together += Math.abs(offers[round] - due);
            }
            return together;
        }

        private void learn() {
            lawUp = 0;
            lawDown = 0;
            fewest = missesOf(0, 0);
            for (int u = 0; u <= MOST_STEP; u++) {
                for (int d = 0; d <= MOST_STEP; d++) {
                    int missed = missesOf(u, d);
                    if (missed < fewest) {
                        fewest = missed;
                        lawUp = u;
                        lawDown = d;
                    }
                }
            }
        }

        private int got() {
            int coins = 0;
            for (int round = 0; round < size; round++) {
                coins += answers[round] * (COINS - offers[round]);
            }
            return coins;
        }

        private int could() {
            int most = 0;
            for (int offer = 0; offer < OFFERS; offer++) {
                most = Math.max(most, (COINS - offer) * takenUpTo(offer));
            }
            return most;
        }

        private int takenUpTo(int offer) {
            int found = 0;
            for (int round = 0; round < size; round++) {
                found += offers[round] <= offer ? answers[round] : 0;
            }
            return found;
        }
    }

    /** Rows of numbers in one of three forms, and what was found wrong with their use. */
    private static final class Sheets {
        private static final int MOST = 4;
        private static final int ITEMS = 48;
        private static final int FORMS = 3;
        private static final int BYTES = 0;
        private static final int SHORTS = 1;

        private final int[] forms = {NONE, NONE, NONE, NONE};
        private final int[] sizes = new int[MOST];
        private final int[] items = new int[MOST * ITEMS];
        private int latestFinding;

        private int found(int finding) {
            latestFinding = finding;
            return -10 - finding;
        }

        private boolean isLost(int s) {
            return forms[s] == NONE;
        }

        private int formOf(int s) {
            return forms[s];
        }

        private int sizeOf(int s) {
            return sizes[s];
        }

        private void renew(int s, int form, int n) {
            forms[s] = form;
            sizes[s] = n;
            Arrays.fill(items, s * ITEMS, (s + 1) * ITEMS, 0);
        }

        private int drop(int s) {
            forms[s] = NONE;
            return sizes[s];
        }

        /** The first finding that fits the use of an item, or 0. */
        private int findingAt(int s, int form, int i) {
            if (isLost(s)) {
                return NULL;
            }
            if (forms[s] != form) {
                return CAST;
            }
            return i < 0 || i >= sizes[s] ? INDEX : 0;
        }

        private int item(int s, int i) {
            return items[s * ITEMS + i];
        }

        private void keep(int s, int i, int v) {
            items[s * ITEMS + i] = narrowed(forms[s], v);
        }

        private static int narrowed(int form, int v) {
            if (form == BYTES) {
                return (byte) v;
            }
            return form == SHORTS ? (short) v : v;
        }

        private boolean hasSpan(int s, int i, int n) {
            // Taken from the size, for a sum could wrap.
            return i >= 0 && n >= 0 && n <= sizes[s] && i <= sizes[s] - n;
        }

        private void move(int s, int i, int t, int j, int n) {
            System.arraycopy(items, s * ITEMS + i, items, t * ITEMS + j, n);
        }
    }
}
