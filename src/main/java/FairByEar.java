import java.util.Arrays;
import java.util.NoSuchElementException;

/** A market in the dark of a mine, told by ear alone. */
public final class FairByEar {
    public static final int NONE = -1;

    private static final int PLACES = 10;
    private static final int NO_WAY = 999;
    private static final int MOST_TUNNELS = 16;
    private static final int MOST_LENGTH = 20;
    private static final int MOST_PEOPLE = 8;
    private static final int MOST_PURSE = 999;
    private static final int MOST_GOODS = 10;
    private static final int MOST_TESTS = 6;
    private static final int ANSWERS = 10;
    private static final int MOST_ITEMS = 12;
    private static final int MOST_PRICE = 99;
    private static final int MOST_ROUNDS = 200;
    private static final int LAST_MINUTE = 999;
    private static final int MOST_CROWDED = 6;
    private static final int LAMP_REACH = 10;

    private final Row told;
    private final Mine mine;
    private final Goods shelf;
    private final Tree trees;
    private final Rule way;
    private final Items items;
    private final Asking asking;
    private final Watch watch;
    private final Noise noise;
    private final Air air;
    private final Ears ears;

    public FairByEar() {
        told = new Row();
        mine = new Mine();
        shelf = new Goods();
        trees = new Tree(shelf);
        way = new Rule(mine);
        items = new Items(mine);
        asking = new Asking(mine, items);
        watch = new Watch(mine);
        noise = new Noise(mine);
        air = new Air(mine);
        ears = new Ears(mine);
    }

    // ---- the mine

    public int tunnel(int a, int b, int length) {
        return mine.addTunnel(a, b, length);
    }

    public int wall(int place, int v) {
        return mine.setWall(place, v);
    }

    public int far(int a, int b) {
        return mine.isPlace(a) && mine.isPlace(b) ? mine.distance(a, b) : NONE;
    }

    public int person(int place, int purse, int load) {
        return mine.addPerson(place, purse, load);
    }

    public int walk(int person, int place) {
        return mine.move(person, place);
    }

    public int of(int person, int what) throws NoSuchElementException {
        if (!mine.isPerson(person) || !within(what, 0, 2)) {
            throw new NoSuchElementException();
        }
        if (what == 0) {
            return mine.placeOf(person);
        }
        return what == 1 ? mine.purseOf(person) : mine.loadOf(person);
    }

    // ---- goods and tests

    public int good(int often) {
        return shelf.addGood(often);
    }

    public int test(int cost) {
        return shelf.addTest(cost);
    }

    public int answer(int good, int test, int v) {
        return shelf.setAnswer(good, test, v);
    }

    public int sheet(int test, int kind, int n, int f, int step) {
        return shelf.readSheet(test, kind, n, f, step);
    }

    public int apart(int a, int b) {
        return shelf.isGood(a) && shelf.isGood(b) ? shelf.unlike(a, b) : NONE;
    }

    public int sure(int goods, int tests) {
        if (!shelf.areGoods(goods) || !shelf.areTests(tests)) {
            return NONE;
        }
        int alone = shelf.toldBy(tests, goods);
        told.tell(alone);
        return Integer.bitCount(alone);
    }

    public int keep(int goods) {
        if (!shelf.areGoods(goods)) {
            return NONE;
        }
        int tests = shelf.fewestTests(goods);
        if (tests < 0) {
            return -2;
        }
        told.tell(tests);
        return Integer.bitCount(tests);
    }

    public int ban(int goods, int tests) {
        if (!shelf.areGoods(goods) || !shelf.areTests(tests)) {
            return NONE;
        }
        int banned = shelf.toBan(tests, goods);
        told.tell(banned);
        return Integer.bitCount(banned);
    }

    public int tree(int goods) {
        if (!shelf.areGoods(goods)) {
            return NONE;
        }
        int sum = trees.grow(goods);
        told.tell(trees.firstTest(goods), trees.dearest(goods));
        return sum;
    }

    public int copper(int goods, int coppers) {
        if (!shelf.areGoods(goods) || !within(coppers, 0, 99)) {
            return NONE;
        }
        return trees.toldWithin(goods, coppers);
    }

    public int asks(int goods, int good) {
        if (!shelf.areGoods(goods) || !shelf.isGood(good) || !has(goods, good)) {
            return NONE;
        }
        trees.grow(goods);
        return trees.tellPath(goods, good, told);
    }

    // ---- rights of way

    public int sign(int v) {
        return way.append(v);
    }

    public boolean end(int n) {
        return way.cut(n);
    }

    public int rule() {
        return way.read();
    }

    public int first(int one, int other) {
        if (!mine.isPerson(one) || !mine.isPerson(other) || one == other) {
            return NONE;
        }
        int ofOne = way.valueFor(one);
        int ofOther = way.valueFor(other);
        told.tell(ofOne, ofOther);
        if (ofOne == ofOther) {
            return Math.min(one, other);
        }
        return ofOne > ofOther ? one : other;
    }

    public int order() {
        return way.tellOrder(told);
    }

    // ---- asking, selling

    public int want(int person, int good, int v) {
        if (!mine.isPerson(person) || !shelf.isGood(good) || !within(v, 0, MOST_PRICE)) {
            return NONE;
        }
        return asking.setWants(person, good, v);
    }

    public int item(int good, int owner, int price) {
        if (!shelf.isGood(good) || !mine.isPerson(owner) || !within(price, 0, MOST_PRICE)) {
            return NONE;
        }
        int item = items.addItem(good, owner);
        if (item != NONE) {
            asking.startPrice(item, price);
        }
        return item;
    }

    public int thing(int item, int what) throws NoSuchElementException {
        if (!items.isItem(item) || !within(what, 0, 3)) {
            throw new NoSuchElementException();
        }
        if (what == 0) {
            return items.goodOf(item);
        }
        if (what == 1) {
            return items.ownerOf(item);
        }
        if (what == 2) {
            return asking.priceOf(item);
        }
        return items.isSold(item) ? 1 : 0;
    }

    public int wind(int v) {
        return asking.setWind(v);
    }

    public int rounds(int n) {
        if (!within(n, 0, MOST_ROUNDS)) {
            return NONE;
        }
        int changed = asking.askOn(n);
        asking.tellAskers(told);
        return changed;
    }

    public int settles() {
        return asking.foresee();
    }

    public int buy(int person, int item) {
        return items.sell(item, person, asking.priceOf(item));
    }

    public int undo() {
        return items.takeBack();
    }

    // ---- thieves, clinks

    public int counted(int place, int minute, int many) {
        return watch.addCount(place, minute, many);
    }

    public int been(int person, int place, int from, int to) {
        return watch.addStay(person, place, from, to);
    }

    public int missing(int place) {
        return mine.isPlace(place) ? watch.tellThefts(place, told) : NONE;
    }

    public int suspects(int place, int k) {
        return mine.isPlace(place) && k >= 0 ? watch.suspectsOf(place, k) : NONE;
    }

    public int gang() {
        int people = watch.smallestGang();
        if (people < 0) {
            return -2;
        }
        told.tell(people);
        return Integer.bitCount(people);
    }

    public int clink(int place, int minute, int coin) {
        return watch.addClink(place, minute, coin);
    }

    public int hands() {
        return watch.tellHands(told);
    }

    // ---- crowds

    public int loud(int place) {
        return mine.isPlace(place) ? noise.loudAt(place) : NONE;
    }

    public int loudest() {
        return noise.tellLoudest(told);
    }

    public int heard(int place, int v) {
        return noise.addHeard(place, v);
    }

    public int crowds(int n, int give) {
        if (!within(n, 1, MOST_CROWDED) || !within(give, 0, 99)) {
            return NONE;
        }
        return noise.tellCrowds(n, give, told);
    }

    // ---- gas

    public int gas(int what, int v) {
        return air.set(what, v);
    }

    public int lasts() {
        return air.stay();
    }

    public int leave() {
        return air.tellLeaving(told);
    }

    // ---- a judge, a lamp

    public int ear(int d, int v) {
        return ears.setChance(d, v);
    }

    public int sound(int from, int at) {
        return ears.tellSound(from, at, told);
    }

    public int judge(int person, int late, int back) {
        if (!mine.isPerson(person) || !ears.canHear(late, back)) {
            return NONE;
        }
        return ears.tellPlace(person, late, back, told);
    }

    public int who(int person, int late, int back) {
        if (!mine.isPerson(person) || !ears.canHear(late, back)) {
            return NONE;
        }
        return ears.tellClapper(person, late, back, told);
    }

    public int lamp(int place) {
        if (!mine.isPlace(place)) {
            return NONE;
        }
        if (air.burns()) {
            mine.dropPurses();
            return -2;
        }
        int seen = mine.peopleNear(place, LAMP_REACH);
        int theirs = items.ownedBy(seen);
        told.tell(theirs, asking.wantedByTwo(theirs, seen));
        return seen;
    }

    // ---- kept

    public int count(int what) {
        switch (what) {
            case 0: return mine.tunnels();
            case 1: return mine.people();
            case 2: return shelf.goods();
            case 3: return shelf.tests();
            case 4: return items.size();
            case 5: return items.soldOnes();
            case 6: return items.sales();
            case 7: return mine.allPurses();
            case 8: return told.size();
            case 9: return way.signs();
            default: return NONE;
        }
    }

    public long row(int i) throws NoSuchElementException {
        if (!told.holds(i)) {
            throw new NoSuchElementException();
        }
        return told.get(i);
    }

    private static boolean within(int v, int least, int most) {
        return v >= least && v <= most;
    }

    private static boolean has(int bits, int i) {
        return (bits >>> i & 1) != 0;
    }

    /** The ROW. */
    private static final class Row {
        private final long[] numbers = new long[MOST_ITEMS];
        private int size = 0;

        void clear() {
            size = 0;
        }

        void add(long v) {
            if (size < numbers.length) {
                numbers[size] = v;
                size++;
            }
        }

        void tell(long only) {
            clear();
            add(only);
        }

        void tell(long one, long other) {
            clear();
            add(one);
            add(other);
        }

        void tellFraction(int upper, int lower) {
            int shared = commonDivisor(upper, lower);
            if (upper == 0 || shared == 0) {
                tell(0, 1);
            } else {
                tell(upper / shared, lower / shared);
            }
        }

        int size() {
            return size;
        }

        boolean holds(int i) {
            return i >= 0 && i < size;
        }

        long get(int i) {
            return holds(i) ? numbers[i] : 0;
        }

        private static int commonDivisor(int a, int b) {
            int greater = a;
            int lesser = b;
            // Euclid's steps are at most some five for each digit of an int.
            for (int step = 0; step < 100 && lesser != 0; step++) {
                int rest = greater % lesser;
                greater = lesser;
                lesser = rest;
            }
            return greater;
        }
    }

    /** PLACES, TUNNELS, WALLS, and PEOPLE in them. */
    private static final class Mine {
        private final int[] ways = new int[PLACES * PLACES];
        private final int[] walls = new int[PLACES];
        private final int[] places = new int[MOST_PEOPLE];
        private final int[] purses = new int[MOST_PEOPLE];
        private final int[] loads = new int[MOST_PEOPLE];
        private int tunnels = 0;
        private int people = 0;

        Mine() {
            Arrays.fill(ways, NO_WAY);
            for (int place = 0; place < PLACES; place++) {
                ways[place * PLACES + place] = 0;
            }
        }

        boolean isPlace(int place) {
            return place >= 0 && place < PLACES;
        }

        boolean isPerson(int person) {
            return person >= 0 && person < people;
        }

        int tunnels() {
            return tunnels;
        }

        int people() {
            return people;
        }

        int addTunnel(int a, int b, int length) {
            if (!isPlace(a) || !isPlace(b) || a == b) {
                return NONE;
            }
            if (!within(length, 1, MOST_LENGTH) || tunnels >= MOST_TUNNELS) {
                return NONE;
            }
            for (int from = 0; from < PLACES; from++) {
                for (int to = 0; to < PLACES; to++) {
                    int there = distance(from, a) + length + distance(b, to);
                    int back = distance(from, b) + length + distance(a, to);
                    int kept = distance(from, to);
                    ways[from * PLACES + to] = Math.min(kept, Math.min(there, back));
                }
            }
            tunnels++;
            return tunnels - 1;
        }

        int distance(int a, int b) {
            return isPlace(a) && isPlace(b) ? ways[a * PLACES + b] : NO_WAY;
        }

        boolean joined(int a, int b) {
            return distance(a, b) < NO_WAY;
        }

        int setWall(int place, int v) {
            if (!isPlace(place) || !within(v, 0, 20)) {
                return NONE;
            }
            int was = walls[place];
            walls[place] = v;
            return was;
        }

        int wallOf(int place) {
            return isPlace(place) ? walls[place] : 0;
        }

        int addPerson(int place, int purse, int load) {
            if (!isPlace(place) || !within(purse, 0, MOST_PURSE) || !within(load, 0, 9)) {
                return NONE;
            }
            if (people >= MOST_PEOPLE) {
                return NONE;
            }
            places[people] = place;
            purses[people] = purse;
            loads[people] = load;
            people++;
            return people - 1;
        }

        int move(int person, int place) {
            if (!isPerson(person) || !isPlace(place)) {
                return NONE;
            }
            int length = distance(places[person], place);
            if (length >= NO_WAY) {
                return -2;
            }
            places[person] = place;
            return length;
        }

        int placeOf(int person) {
            return isPerson(person) ? places[person] : 0;
        }

        int purseOf(int person) {
            return isPerson(person) ? purses[person] : 0;
        }

        void setPurse(int person, int v) {
            if (isPerson(person)) {
                purses[person] = Math.min(v, MOST_PURSE);
            }
        }

        int loadOf(int person) {
            return isPerson(person) ? loads[person] : 0;
        }

        int farOut(int person) {
            return distance(0, placeOf(person));
        }

        int peopleAt(int place) {
            int many = 0;
            for (int person = 0; person < people; person++) {
                if (places[person] == place) {
                    many++;
                }
            }
            return many;
        }

        int peopleNear(int place, int reach) {
            int bits = 0;
            for (int person = 0; person < people; person++) {
                if (distance(place, places[person]) <= reach) {
                    bits |= 1 << person;
                }
            }
            return bits;
        }

        void dropPurses() {
            Arrays.fill(purses, 0);
        }

        int allPurses() {
            int sum = 0;
            for (int person = 0; person < people; person++) {
                sum += purses[person];
            }
            return sum;
        }
    }

    /** GOODS, TESTS and ANSWERS. */
    private static final class Goods {
        private static final int BYTES = 0;
        private static final int SHORTS = 1;
        private static final int MISSING = 3;

        private final int[] often = new int[MOST_GOODS];
        private final int[] costs = new int[MOST_TESTS];
        private final int[] answers = new int[MOST_GOODS * MOST_TESTS];
        // GOODS as bits by TEST and ANSWER, so that a set is parted by one "and".
        private final int[] sharing = new int[MOST_TESTS * ANSWERS];
        private int goods = 0;
        private int tests = 0;

        int goods() {
            return goods;
        }

        int tests() {
            return tests;
        }

        boolean isGood(int good) {
            return good >= 0 && good < goods;
        }

        boolean isTest(int test) {
            return test >= 0 && test < tests;
        }

        boolean areGoods(int bits) {
            return bits >= 1 && bits < 1 << goods;
        }

        boolean areTests(int bits) {
            return bits >= 0 && bits < 1 << tests;
        }

        int addGood(int v) {
            if (!within(v, 1, 9) || goods >= MOST_GOODS) {
                return NONE;
            }
            often[goods] = v;
            for (int test = 0; test < MOST_TESTS; test++) {
                sharing[test * ANSWERS] |= 1 << goods;
            }
            goods++;
            return goods - 1;
        }

        int addTest(int cost) {
            if (!within(cost, 1, 9) || tests >= MOST_TESTS) {
                return NONE;
            }
            costs[tests] = cost;
            tests++;
            return tests - 1;
        }

        int costOf(int test) {
            return isTest(test) ? costs[test] : 0;
        }

        int answerOf(int good, int test) {
            return isGood(good) && isTest(test) ? answers[good * MOST_TESTS + test] : 0;
        }

        int setAnswer(int good, int test, int v) {
            if (!isGood(good) || !isTest(test) || !within(v, 0, ANSWERS - 1)) {
                return NONE;
            }
            int was = answers[good * MOST_TESTS + test];
            sharing[test * ANSWERS + was] &= ~(1 << good);
            sharing[test * ANSWERS + v] |= 1 << good;
            answers[good * MOST_TESTS + test] = v;
            return was;
        }

        int readSheet(int test, int kind, int n, int f, int step) {
            if (!isTest(test) || !within(kind, BYTES, MISSING) || n > MOST_GOODS) {
                return NONE;
            }
            if (kind != MISSING && n < 0) {
                return -2;
            }
            int entries = kind == MISSING ? 0 : n;
            int sum = 0;
            for (int good = 0; good < goods; good++) {
                int v = good < entries ? entry(kind, f + good * step) : 0;
                setAnswer(good, test, v);
                sum += v;
            }
            return kind == MISSING ? -3 : sum;
        }

        private static int entry(int kind, int v) {
            int held = v;
            if (kind == BYTES) {
                held = (byte) v;
            } else if (kind == SHORTS) {
                held = (short) v;
            }
            return Math.max(0, Math.min(ANSWERS - 1, held));
        }

        int unlike(int a, int b) {
            int bits = 0;
            for (int test = 0; test < tests; test++) {
                if (answerOf(a, test) != answerOf(b, test)) {
                    bits |= 1 << test;
                }
            }
            return bits;
        }

        /** Those of a set that answer a TEST so. */
        int part(int set, int test, int v) {
            return isTest(test) && within(v, 0, ANSWERS - 1) ? set & sharing[test * ANSWERS + v] : 0;
        }

        boolean parts(int set, int test) {
            for (int v = 0; v < ANSWERS; v++) {
                int some = part(set, test, v);
                if (some != 0) {
                    return some != set;
                }
            }
            return false;
        }

        /** Those of a set that answer all these TESTS as a GOOD does. */
        private int sameAs(int good, int testBits, int set) {
            int same = set;
            for (int test = 0; test < tests; test++) {
                if (has(testBits, test)) {
                    same = part(same, test, answerOf(good, test));
                }
            }
            return same;
        }

        int oftenOf(int set) {
            int sum = 0;
            for (int good = 0; good < goods; good++) {
                if (has(set, good)) {
                    sum += often[good];
                }
            }
            return sum;
        }

        int toldBy(int testBits, int set) {
            int alone = 0;
            for (int good = 0; good < goods; good++) {
                if (has(set, good) && sameAs(good, testBits, set) == 1 << good) {
                    alone |= 1 << good;
                }
            }
            return alone;
        }

        /** The bits of the fewest TESTS that keep a set apart, or NONE. */
        int fewestTests(int set) {
            int found = NONE;
            for (int bits = 0; bits < 1 << tests; bits++) {
                if ((found == NONE || betterTests(bits, found)) && toldBy(bits, set) == set) {
                    found = bits;
                }
            }
            return found;
        }

        private boolean betterTests(int bits, int found) {
            int fewer = Integer.bitCount(bits) - Integer.bitCount(found);
            return fewer < 0 || fewer == 0 && costOfAll(bits) < costOfAll(found);
        }

        private int costOfAll(int testBits) {
            int sum = 0;
            for (int test = 0; test < tests; test++) {
                if (has(testBits, test)) {
                    sum += costs[test];
                }
            }
            return sum;
        }

        /** Of those with the same ANSWERS all but one must go; each such group chooses for itself. */
        int toBan(int testBits, int set) {
            int banned = 0;
            for (int good = 0; good < goods; good++) {
                if (has(set, good) && givesWay(good, sameAs(good, testBits, set))) {
                    banned |= 1 << good;
                }
            }
            return banned;
        }

        private boolean givesWay(int good, int group) {
            for (int other = 0; other < goods; other++) {
                if (other == good || !has(group, other)) {
                    continue;
                }
                // Of equal ones the highest stays: so the banned bits are the least.
                if (often[other] > often[good] || often[other] == often[good] && other > good) {
                    return true;
                }
            }
            return false;
        }
    }

    /** The best tree of TESTS, and what can be told for some coppers. */
    private static final class Tree {
        private static final int UNKNOWN = -1;

        private final Goods goods;
        private final int[] leasts = new int[1 << MOST_GOODS];
        private final int[] firsts = new int[1 << MOST_GOODS];
        // TESTS taken and one GOOD give the set that is left and the coppers, too.
        private final int[] tolds = new int[(1 << MOST_TESTS) * MOST_GOODS];

        Tree(Goods goods) {
            this.goods = goods;
        }

        /** Finds the best tree of a set; the other calls tell of the tree grown last. */
        int grow(int set) {
            Arrays.fill(leasts, UNKNOWN);
            return least(set, 0);
        }

        private static boolean isSet(int set) {
            return set >= 0 && set < 1 << MOST_GOODS;
        }

        /** A TEST parts a set once at most on each branch, so the depth stays below that of all TESTS. */
        private int least(int set, int depth) {
            if (!isSet(set) || depth > MOST_TESTS) {
                return 0;
            }
            if (leasts[set] != UNKNOWN) {
                return leasts[set];
            }
            int best = 0;
            int chosen = NONE;
            for (int test = 0; test < goods.tests(); test++) {
                if (goods.parts(set, test)) {
                    int sum = goods.oftenOf(set) * goods.costOf(test) + leastOfParts(set, test, depth + 1);
                    if (chosen == NONE || sum < best) {
                        best = sum;
                        chosen = test;
                    }
                }
            }
            leasts[set] = best;
            firsts[set] = chosen;
            return best;
        }

        private int leastOfParts(int set, int test, int depth) {
            int sum = 0;
            for (int v = 0; v < ANSWERS; v++) {
                int part = goods.part(set, test, v);
                if (part != 0) {
                    sum += least(part, depth);
                }
            }
            return sum;
        }

        int firstTest(int set) {
            return isSet(set) && leasts[set] != UNKNOWN ? firsts[set] : NONE;
        }

        int dearest(int set) {
            int most = 0;
            for (int good = 0; good < goods.goods(); good++) {
                if (has(set, good)) {
                    most = Math.max(most, costFor(set, good));
                }
            }
            return most;
        }

        private int costFor(int set, int good) {
            int left = set;
            int sum = 0;
            for (int taken = 0; taken < MOST_TESTS; taken++) {
                int test = firstTest(left);
                if (test == NONE) {
                    break;
                }
                sum += goods.costOf(test);
                left = goods.part(left, test, goods.answerOf(good, test));
            }
            return sum;
        }

        int tellPath(int set, int good, Row told) {
            int left = set;
            told.clear();
            for (int taken = 0; taken < MOST_TESTS; taken++) {
                int test = firstTest(left);
                if (test == NONE) {
                    break;
                }
                told.add(test);
                left = goods.part(left, test, goods.answerOf(good, test));
            }
            told.add(left);
            return told.size() - 1;
        }

        int toldWithin(int set, int coppers) {
            Arrays.fill(tolds, UNKNOWN);
            return mostTold(set, 0, coppers);
        }

        /** Each level takes a TEST that was not taken yet: the bits of those taken bound the depth. */
        private int mostTold(int set, int taken, int coppers) {
            if (Integer.bitCount(set) == 1) {
                return goods.oftenOf(set);
            }
            int kept = taken * MOST_GOODS + lowest(set);
            if (kept < 0 || kept >= tolds.length) {
                return 0;
            }
            if (tolds[kept] != UNKNOWN) {
                return tolds[kept];
            }
            int most = 0;
            for (int test = 0; test < goods.tests(); test++) {
                boolean fresh = !has(taken, test) && goods.costOf(test) <= coppers;
                if (fresh && goods.parts(set, test)) {
                    int left = coppers - goods.costOf(test);
                    most = Math.max(most, mostOfParts(set, test, taken | 1 << test, left));
                }
            }
            tolds[kept] = most;
            return most;
        }

        private int mostOfParts(int set, int test, int taken, int coppers) {
            int sum = 0;
            for (int v = 0; v < ANSWERS; v++) {
                int part = goods.part(set, test, v);
                if (part != 0) {
                    sum += mostTold(part, taken, coppers);
                }
            }
            return sum;
        }

        private static int lowest(int set) {
            for (int good = 0; good < MOST_GOODS; good++) {
                if (has(set, good)) {
                    return good;
                }
            }
            return 0;
        }
    }

    /** THE TEXT, and THE RULE of the way read from it: kept with each sign of doing behind its things. */
    private static final class Rule {
        private static final int MOST_SIGNS = 60;
        private static final int MOST_RULE = 40;
        private static final int MOST_OPEN = 5;
        private static final int MOST_DIGITS = 3;
        // A minus ahead of a thing; no text can bring it, as no thing and no sign behind one is it.
        private static final int MINUS_AHEAD = '~';
        // How strongly signs bind, from 1 (the least) on.
        private static final int LEAST = 1;
        private static final int COMPARING = 3;
        private static final int AHEAD = 6;

        private final Mine mine;
        private final int[] text = new int[MOST_SIGNS];
        private int length = 0;
        // Steps: numbers are kept as they are, signs below 0.
        private final int[] steps = new int[MOST_RULE];
        private int size = 0;
        private final int[] draft = new int[MOST_RULE];
        private int drafted = 0;
        private final int[] waiting = new int[MOST_RULE];
        private int waits = 0;
        private final boolean[] compared = new boolean[MOST_OPEN + 1];
        private int open = 0;
        private int digits = 0;
        private boolean wantsThing = true;
        private final int[] values = new int[MOST_RULE];
        private final int[] byPerson = new int[MOST_PEOPLE];

        Rule(Mine mine) {
            this.mine = mine;
        }

        int signs() {
            return length;
        }

        int append(int v) {
            if (length + 4 > MOST_SIGNS) {
                return NONE;
            }
            for (int shift = 24; shift >= 0; shift -= 8) {
                text[length] = v >>> shift & 255;
                length++;
            }
            return length;
        }

        boolean cut(int n) {
            if (n < 0 || n > length) {
                return false;
            }
            length = n;
            return true;
        }

        int read() {
            int signs = length;
            length = 0;
            if (signs == 0) {
                size = 0;
                return 0;
            }
            startDraft();
            for (int p = 0; p < signs && p < MOST_RULE; p++) {
                boolean fits = wantsThing ? takesThing(text[p]) : takesBehind(text[p]);
                if (!fits) {
                    return -1 - p;
                }
            }
            if (signs > MOST_RULE) {
                return -1 - MOST_RULE;
            }
            if (wantsThing || open > 0) {
                return -1 - signs;
            }
            release(LEAST);
            System.arraycopy(draft, 0, steps, 0, drafted);
            size = drafted;
            return 0;
        }

        private void startDraft() {
            drafted = 0;
            waits = 0;
            open = 0;
            compared[0] = false;
            digits = 0;
            wantsThing = true;
        }

        private boolean takesThing(int c) {
            if (c == '!') {
                await('!');
            } else if (c == '-') {
                await(MINUS_AHEAD);
            } else if (c == '(') {
                return opens();
            } else if (isDigit(c)) {
                emit(c - '0');
                digits = 1;
                wantsThing = false;
            } else if (isSign(c)) {
                emit(-c);
                wantsThing = false;
            } else {
                return false;
            }
            return true;
        }

        private boolean takesBehind(int c) {
            if (isDigit(c)) {
                return goesOn(c - '0');
            }
            digits = 0;
            if (c == ')') {
                return closes();
            }
            int level = levelBetween(c);
            if (level == 0 || level == COMPARING && compared[open]) {
                return false;
            }
            if (level <= COMPARING) {
                compared[open] = level == COMPARING;
            }
            release(level);
            await(c);
            wantsThing = true;
            return true;
        }

        private boolean goesOn(int digit) {
            if (digits == 0 || digits >= MOST_DIGITS || drafted == 0) {
                return false;
            }
            draft[drafted - 1] = draft[drafted - 1] * 10 + digit;
            digits++;
            return true;
        }

        private boolean opens() {
            if (open >= MOST_OPEN) {
                return false;
            }
            open++;
            compared[open] = false;
            await('(');
            return true;
        }

        private boolean closes() {
            if (open == 0) {
                return false;
            }
            release(LEAST);
            open--;
            waits = Math.max(0, waits - 1);
            return true;
        }

        private static boolean isDigit(int c) {
            return c >= '0' && c <= '9';
        }

        private static boolean isSign(int c) {
            return c == 'l' || c == 'u' || c == 'n' || c == 'f' || c == 'w' || c == 'k';
        }

        /** How strongly a sign between two things binds; 0: it is none. */
        private static int levelBetween(int c) {
            switch (c) {
                case '|': return LEAST;
                case '&': return 2;
                case '<': case '>': case '=': return COMPARING;
                case '+': case '-': return 4;
                case '*': return 5;
                default: return 0;
            }
        }

        private static int levelWaiting(int c) {
            return c == '!' || c == MINUS_AHEAD ? AHEAD : levelBetween(c);
        }

        private void emit(int step) {
            if (drafted < draft.length) {
                draft[drafted] = step;
                drafted++;
            }
        }

        private void await(int c) {
            if (waits < waiting.length) {
                waiting[waits] = c;
                waits++;
            }
        }

        /** Those that wait and bind no less than a level come now; an open ( binds nothing and holds them. */
        private void release(int level) {
            for (; waits > 0 && levelWaiting(waiting[waits - 1]) >= level; waits--) {
                emit(-waiting[waits - 1]);
            }
        }

        int valueFor(int person) {
            int height = 0;
            for (int i = 0; i < size; i++) {
                int step = steps[i];
                if (step >= 0 || isSign(-step)) {
                    height = put(height, step >= 0 ? step : signFor(-step, person));
                } else if (height >= 1 && levelWaiting(-step) == AHEAD) {
                    int v = values[height - 1];
                    values[height - 1] = step == -MINUS_AHEAD ? -v : bit(v == 0);
                } else if (height >= 2) {
                    height--;
                    values[height - 1] = between(-step, values[height - 1], values[height]);
                }
            }
            return height > 0 ? values[0] : 0;
        }

        private int put(int height, int v) {
            if (height < 0 || height >= values.length) {
                return height;
            }
            values[height] = v;
            return height + 1;
        }

        private int signFor(int c, int person) {
            int place = mine.placeOf(person);
            switch (c) {
                case 'l': return mine.loadOf(person);
                case 'u': return mine.purseOf(person);
                case 'n': return person;
                case 'f': return mine.farOut(person);
                case 'w': return mine.wallOf(place);
                default: return mine.peopleAt(place);
            }
        }

        private static int between(int c, int a, int b) {
            switch (c) {
                case '|': return bit(a != 0 || b != 0);
                case '&': return bit(a != 0 && b != 0);
                case '<': return bit(a < b);
                case '>': return bit(a > b);
                case '=': return bit(a == b);
                case '+': return a + b;
                case '-': return a - b;
                default: return a * b;
            }
        }

        private static int bit(boolean so) {
            return so ? 1 : 0;
        }

        int tellOrder(Row told) {
            int people = mine.people();
            for (int person = 0; person < people; person++) {
                byPerson[person] = valueFor(person);
            }
            told.clear();
            int gone = 0;
            for (int next = 0; next < people; next++) {
                int one = firstOf(people, gone);
                gone |= one == NONE ? 0 : 1 << one;
                told.add(one);
            }
            return equalPairs(people);
        }

        private int firstOf(int people, int gone) {
            int found = NONE;
            int most = 0;
            for (int person = 0; person < people; person++) {
                if (!has(gone, person) && (found == NONE || byPerson[person] > most)) {
                    found = person;
                    most = byPerson[person];
                }
            }
            return found;
        }

        private int equalPairs(int people) {
            int pairs = 0;
            for (int one = 0; one < people; one++) {
                for (int other = one + 1; other < people; other++) {
                    if (byPerson[one] == byPerson[other]) {
                        pairs++;
                    }
                }
            }
            return pairs;
        }
    }

    /** ITEMS, and sales that can be undone. */
    private static final class Items {
        private final Mine mine;
        private final int[] goods = new int[MOST_ITEMS];
        private final int[] owners = new int[MOST_ITEMS];
        private int size = 0;
        private int sold = 0;
        // An ITEM is sold once at most till that is undone, so there are no more sales than ITEMS.
        private final int[] saleItems = new int[MOST_ITEMS];
        private final int[] sellers = new int[MOST_ITEMS];
        private final int[] sellerPurses = new int[MOST_ITEMS];
        private final int[] buyerPurses = new int[MOST_ITEMS];
        private int sales = 0;

        Items(Mine mine) {
            this.mine = mine;
        }

        int size() {
            return size;
        }

        int sales() {
            return sales;
        }

        int soldOnes() {
            return sold;
        }

        boolean isItem(int item) {
            return item >= 0 && item < size;
        }

        boolean isSold(int item) {
            return isItem(item) && has(sold, item);
        }

        int goodOf(int item) {
            return isItem(item) ? goods[item] : 0;
        }

        int ownerOf(int item) {
            return isItem(item) ? owners[item] : NONE;
        }

        int addItem(int good, int owner) {
            if (size >= MOST_ITEMS) {
                return NONE;
            }
            goods[size] = good;
            owners[size] = owner;
            size++;
            return size - 1;
        }

        int ownedBy(int people) {
            int bits = 0;
            for (int item = 0; item < size; item++) {
                if (has(people, owners[item])) {
                    bits |= 1 << item;
                }
            }
            return bits;
        }

        int sell(int item, int buyer, int price) {
            if (!isItem(item) || !mine.isPerson(buyer)) {
                return NONE;
            }
            if (isSold(item)) {
                return -2;
            }
            int seller = owners[item];
            if (seller == buyer || price > mine.purseOf(buyer)) {
                return -3;
            }
            if (!mine.joined(mine.placeOf(buyer), mine.placeOf(seller))) {
                return -4;
            }
            note(item, seller, buyer);
            mine.setPurse(buyer, mine.purseOf(buyer) - price);
            mine.setPurse(seller, mine.purseOf(seller) + price);
            owners[item] = buyer;
            sold |= 1 << item;
            return mine.purseOf(buyer);
        }

        private void note(int item, int seller, int buyer) {
            if (sales < MOST_ITEMS) {
                saleItems[sales] = item;
                sellers[sales] = seller;
                sellerPurses[sales] = mine.purseOf(seller);
                buyerPurses[sales] = mine.purseOf(buyer);
                sales++;
            }
        }

        int takeBack() {
            if (sales == 0) {
                return -2;
            }
            sales--;
            int item = saleItems[sales];
            mine.setPurse(owners[item], buyerPurses[sales]);
            mine.setPurse(sellers[sales], sellerPurses[sales]);
            owners[item] = sellers[sales];
            sold &= ~(1 << item);
            return item;
        }
    }

    /** PRICES, round by round, and who asks for what by those heard. */
    private static final class Asking {
        private static final int MOST_LATE = 9;
        private static final int KEPT = MOST_LATE + 1;
        private static final int UNHEARD = -1;

        private final Mine mine;
        private final Items items;
        private final int[] wants = new int[MOST_PEOPLE * MOST_GOODS];
        private int wind = 20;
        // Row MOST_LATE is now, those ahead of it are rounds gone by, those behind it are worked out anew.
        private final int[] prices = new int[(KEPT + MOST_ROUNDS) * MOST_ITEMS];
        private final int[] lates = new int[MOST_PEOPLE * MOST_ITEMS];
        private final int[] askers = new int[MOST_ITEMS];

        Asking(Mine mine, Items items) {
            this.mine = mine;
            this.items = items;
        }

        int setWants(int person, int good, int v) {
            int was = wantsOf(person, good);
            if (mine.isPerson(person) && within(good, 0, MOST_GOODS - 1)) {
                wants[person * MOST_GOODS + good] = v;
            }
            return was;
        }

        private int wantsOf(int person, int good) {
            boolean kept = mine.isPerson(person) && within(good, 0, MOST_GOODS - 1);
            return kept ? wants[person * MOST_GOODS + good] : 0;
        }

        int setWind(int v) {
            if (!within(v, 1, 20)) {
                return NONE;
            }
            int was = wind;
            wind = v;
            return was;
        }

        void startPrice(int item, int price) {
            if (!items.isItem(item)) {
                return;
            }
            for (int back = 0; back < KEPT; back++) {
                prices[back * MOST_ITEMS + item] = price;
            }
        }

        int priceOf(int item) {
            return items.isItem(item) ? prices[MOST_LATE * MOST_ITEMS + item] : 0;
        }

        int askOn(int n) {
            if (!within(n, 0, MOST_ROUNDS)) {
                return 0;
            }
            findLates();
            Arrays.fill(askers, 0);
            int changed = 0;
            for (int round = 0; round < n; round++) {
                changed = askOnce(MOST_LATE + round);
            }
            System.arraycopy(prices, n * MOST_ITEMS, prices, 0, KEPT * MOST_ITEMS);
            return changed;
        }

        void tellAskers(Row told) {
            told.clear();
            for (int item = 0; item < items.size(); item++) {
                told.add(askers[item]);
            }
        }

        int foresee() {
            findLates();
            for (int round = 1; round <= MOST_ROUNDS; round++) {
                askOnce(MOST_LATE + round - 1);
                for (int gone = round - 1; gone >= 0; gone--) {
                    if (sameBehind(gone, round)) {
                        return gone == round - 1 ? gone : NONE - (round - gone);
                    }
                }
            }
            return -999;
        }

        private boolean sameBehind(int gone, int round) {
            for (int back = MOST_LATE; back >= 0; back--) {
                int one = (gone + back) * MOST_ITEMS;
                int other = (round + back) * MOST_ITEMS;
                for (int item = 0; item < items.size(); item++) {
                    if (prices[one + item] != prices[other + item]) {
                        return false;
                    }
                }
            }
            return true;
        }

        /** Nobody moves and nothing is sold while they ask, so how late each hears is worked out once. */
        private void findLates() {
            for (int person = 0; person < mine.people(); person++) {
                for (int item = 0; item < items.size(); item++) {
                    lates[person * MOST_ITEMS + item] = lateFor(person, item);
                }
            }
        }

        private int lateFor(int person, int item) {
            int owner = items.ownerOf(item);
            if (items.isSold(item) || owner == person || wind < 1) {
                return UNHEARD;
            }
            int length = mine.distance(mine.placeOf(owner), mine.placeOf(person));
            return length >= NO_WAY ? UNHEARD : Math.min(MOST_LATE, length / wind);
        }

        /** One round, by PRICES of the row now and those ahead of it; the next row is told by it. */
        private int askOnce(int now) {
            Arrays.fill(askers, 0);
            for (int person = 0; person < mine.people(); person++) {
                int item = choice(person, now);
                if (item != NONE) {
                    askers[item] |= 1 << person;
                }
            }
            int changed = 0;
            for (int item = 0; item < items.size(); item++) {
                int was = prices[now * MOST_ITEMS + item];
                int next = items.isSold(item) ? was : nextPrice(was, Integer.bitCount(askers[item]));
                prices[(now + 1) * MOST_ITEMS + item] = next;
                if (next != was) {
                    changed++;
                }
            }
            return changed;
        }

        private static int nextPrice(int was, int asked) {
            if (asked == 0) {
                return Math.max(0, was - 1);
            }
            return asked == 1 ? was : Math.min(MOST_PRICE, was + 1);
        }

        private int choice(int person, int now) {
            int found = NONE;
            int most = 0;
            for (int item = 0; item < items.size(); item++) {
                int late = lates[person * MOST_ITEMS + item];
                if (late == UNHEARD) {
                    continue;
                }
                int price = prices[(now - late) * MOST_ITEMS + item];
                int gain = wantsOf(person, items.goodOf(item)) - price;
                boolean can = gain >= 0 && price <= mine.purseOf(person);
                if (can && (found == NONE || gain > most)) {
                    found = item;
                    most = gain;
                }
            }
            return found;
        }

        int wantedByTwo(int itemBits, int people) {
            int bits = 0;
            for (int item = 0; item < items.size(); item++) {
                if (has(itemBits, item) && !items.isSold(item) && wanters(item, people) >= 2) {
                    bits |= 1 << item;
                }
            }
            return bits;
        }

        private int wanters(int item, int people) {
            int many = 0;
            for (int person = 0; person < mine.people(); person++) {
                boolean asked = has(people, person) && person != items.ownerOf(item);
                if (asked && wantsOf(person, items.goodOf(item)) > priceOf(item)) {
                    many++;
                }
            }
            return many;
        }
    }

    /** Counts, stays and clinks: thefts, suspects and whose hand it was. */
    private static final class Watch {
        private static final int MOST_COUNTS = 16;
        private static final int MOST_STAYS = 20;
        private static final int MOST_CLINKS = 6;
        private static final int GIVEN = 1 << MOST_CLINKS;

        private final Mine mine;
        // Counts are kept by minutes, of equal minutes as told.
        private final int[] countPlaces = new int[MOST_COUNTS];
        private final int[] countMinutes = new int[MOST_COUNTS];
        private final int[] countMany = new int[MOST_COUNTS];
        private int counts = 0;
        private final int[] stayPeople = new int[MOST_STAYS];
        private final int[] stayPlaces = new int[MOST_STAYS];
        private final int[] stayFrom = new int[MOST_STAYS];
        private final int[] stayTo = new int[MOST_STAYS];
        private int stays = 0;
        private final int[] clinkPlaces = new int[MOST_CLINKS];
        private final int[] clinkMinutes = new int[MOST_CLINKS];
        private final int[] coins = new int[MOST_CLINKS];
        private int clinks = 0;
        private final int[] blamed = new int[MOST_COUNTS];
        // Ways by how many of PEOPLE have been asked and which clinks these have taken.
        private final int[] ways = new int[(MOST_PEOPLE + 1) * GIVEN];
        private final int[] whose = new int[MOST_CLINKS];

        Watch(Mine mine) {
            this.mine = mine;
        }

        int addCount(int place, int minute, int many) {
            if (!mine.isPlace(place) || !within(minute, 0, LAST_MINUTE) || !within(many, 0, 99)) {
                return NONE;
            }
            if (counts >= MOST_COUNTS) {
                return NONE;
            }
            int at = counts;
            for (; at > 0 && countMinutes[at - 1] > minute; at--) {
                countPlaces[at] = countPlaces[at - 1];
                countMinutes[at] = countMinutes[at - 1];
                countMany[at] = countMany[at - 1];
            }
            countPlaces[at] = place;
            countMinutes[at] = minute;
            countMany[at] = many;
            counts++;
            return counts;
        }

        int addStay(int person, int place, int from, int to) {
            if (!mine.isPerson(person) || !mine.isPlace(place) || stays >= MOST_STAYS) {
                return NONE;
            }
            if (!within(from, 0, LAST_MINUTE) || !within(to, from, LAST_MINUTE)) {
                return NONE;
            }
            stayPeople[stays] = person;
            stayPlaces[stays] = place;
            stayFrom[stays] = from;
            stayTo[stays] = to;
            stays++;
            return stays;
        }

        int addClink(int place, int minute, int coin) {
            if (!mine.isPlace(place) || !within(minute, 0, LAST_MINUTE) || !within(coin, 1, 99)) {
                return NONE;
            }
            if (clinks >= MOST_CLINKS) {
                return NONE;
            }
            clinkPlaces[clinks] = place;
            clinkMinutes[clinks] = minute;
            coins[clinks] = coin;
            clinks++;
            return clinks;
        }

        private int countAhead(int count) {
            for (int ahead = count - 1; ahead >= 0; ahead--) {
                if (countPlaces[ahead] == countPlaces[count]) {
                    return ahead;
                }
            }
            return NONE;
        }

        /** How many were taken between the count ahead and this one; 0: it is no theft. */
        private int takenBy(int count) {
            int ahead = countAhead(count);
            return ahead == NONE ? 0 : Math.max(0, countMany[ahead] - countMany[count]);
        }

        int tellThefts(int place, Row told) {
            int thefts = 0;
            int first = NONE;
            int taken = 0;
            for (int count = 0; count < counts; count++) {
                if (countPlaces[count] == place && takenBy(count) > 0) {
                    first = thefts == 0 ? count : first;
                    thefts++;
                    taken += takenBy(count);
                }
            }
            told.clear();
            int ahead = first == NONE ? NONE : countAhead(first);
            if (ahead != NONE) {
                told.tell(countMinutes[ahead], countMinutes[first]);
                told.add(taken);
            }
            return thefts;
        }

        int suspectsOf(int place, int k) {
            int thefts = 0;
            for (int count = 0; count < counts; count++) {
                if (countPlaces[count] == place && takenBy(count) > 0) {
                    if (thefts == k) {
                        return suspectsBy(count);
                    }
                    thefts++;
                }
            }
            return -2;
        }

        private int suspectsBy(int count) {
            int ahead = countAhead(count);
            if (ahead == NONE) {
                return 0;
            }
            return present(countPlaces[count], countMinutes[ahead], countMinutes[count]);
        }

        private int present(int place, int from, int to) {
            int bits = 0;
            for (int stay = 0; stay < stays; stay++) {
                if (stayPlaces[stay] == place && stayFrom[stay] <= to && stayTo[stay] >= from) {
                    bits |= 1 << stayPeople[stay];
                }
            }
            return bits;
        }

        /** The bits of the fewest of whom each theft has one, or NONE. */
        int smallestGang() {
            int thefts = 0;
            for (int count = 0; count < counts; count++) {
                if (takenBy(count) > 0) {
                    blamed[thefts] = suspectsBy(count);
                    thefts++;
                }
            }
            int found = NONE;
            for (int bits = 0; bits < 1 << mine.people(); bits++) {
                boolean fewer = found == NONE || Integer.bitCount(bits) < Integer.bitCount(found);
                if (fewer && meetsAll(bits, thefts)) {
                    found = bits;
                }
            }
            return found;
        }

        private boolean meetsAll(int people, int thefts) {
            for (int theft = 0; theft < thefts; theft++) {
                if ((blamed[theft] & people) == 0) {
                    return false;
                }
            }
            return true;
        }

        int tellHands(Row told) {
            int people = mine.people();
            int all = (1 << clinks) - 1;
            ways[0] = 1;
            for (int person = 0; person < people; person++) {
                giveTo(person, all);
            }
            Arrays.fill(whose, 0);
            long open = 1L << all;
            for (int person = people - 1; person >= 0; person--) {
                open = traceBack(person, all, open);
            }
            told.clear();
            for (int clink = 0; clink < clinks; clink++) {
                told.add(whose[clink]);
            }
            return ways[people * GIVEN + all];
        }

        private void giveTo(int person, int all) {
            long can = canTake(person, all);
            for (int given = 0; given <= all; given++) {
                int sum = 0;
                for (int some = 0; some <= given; some++) {
                    if ((some & given) == some && (can >>> some & 1) != 0) {
                        sum += ways[person * GIVEN + (given ^ some)];
                    }
                }
                ways[(person + 1) * GIVEN + given] = sum;
            }
        }

        /** Goes back over ways that do lead to all clinks given; open: clinks given then, as bits of bits. */
        private long traceBack(int person, int all, long open) {
            long can = canTake(person, all);
            long before = 0;
            for (int given = 0; given <= all; given++) {
                for (int some = 0; some <= given && (open >>> given & 1) != 0; some++) {
                    boolean fits = (some & given) == some && (can >>> some & 1) != 0;
                    if (fits && ways[person * GIVEN + (given ^ some)] > 0) {
                        markHand(some, person);
                        before |= 1L << (given ^ some);
                    }
                }
            }
            return before;
        }

        private void markHand(int some, int person) {
            for (int clink = 0; clink < clinks; clink++) {
                if (has(some, clink)) {
                    whose[clink] |= 1 << person;
                }
            }
        }

        /** The sets of clinks (a bit for each) that may all be of one. */
        private long canTake(int person, int all) {
            int there = 0;
            for (int clink = 0; clink < clinks; clink++) {
                int minute = clinkMinutes[clink];
                if (has(present(clinkPlaces[clink], minute, minute), person)) {
                    there |= 1 << clink;
                }
            }
            long can = 0;
            for (int some = 0; some <= all; some++) {
                if ((some & there) == some && sumOf(some) <= mine.purseOf(person)) {
                    can |= 1L << some;
                }
            }
            return can;
        }

        private int sumOf(int some) {
            int sum = 0;
            for (int clink = 0; clink < clinks; clink++) {
                if (has(some, clink)) {
                    sum += coins[clink];
                }
            }
            return sum;
        }
    }

    /** How loud it is, and crowds told by that. */
    private static final class Noise {
        private static final int VOICE = 60;
        private static final int MOST_HEARD = 6;
        private static final int MOST_CROWD = 4;

        private final Mine mine;
        private final int[] heardAt = new int[MOST_HEARD];
        private final int[] heardAs = new int[MOST_HEARD];
        private int size = 0;
        private final int[] crowd = new int[MOST_CROWDED];
        private final int[] firstCrowd = new int[MOST_CROWDED];
        private final int[] sums = new int[MOST_HEARD];
        // The most that crowds at a PLACE and those behind it can add to what is heard.
        private final int[] rests = new int[(MOST_CROWDED + 1) * MOST_HEARD];
        private int crowded = 0;
        private int slack = 0;
        private boolean found = false;

        Noise(Mine mine) {
            this.mine = mine;
        }

        private int voice(int from, int at) {
            int length = mine.distance(from, at);
            return length < 0 || length >= NO_WAY ? 0 : VOICE / (1 + length);
        }

        int loudAt(int place) {
            int sum = 0;
            for (int person = 0; person < mine.people(); person++) {
                sum += voice(mine.placeOf(person), place);
            }
            return sum;
        }

        int tellLoudest(Row told) {
            int found = 0;
            int most = loudAt(0);
            int equal = 1;
            for (int place = 1; place < PLACES; place++) {
                int sum = loudAt(place);
                if (sum > most) {
                    found = place;
                    most = sum;
                    equal = 1;
                } else if (sum == most) {
                    equal++;
                }
            }
            told.tell(most, equal);
            return found;
        }

        int addHeard(int place, int v) {
            if (!mine.isPlace(place) || !within(v, 0, 999) || size >= MOST_HEARD) {
                return NONE;
            }
            heardAt[size] = place;
            heardAs[size] = v;
            size++;
            return size;
        }

        int tellCrowds(int n, int give, Row told) {
            crowded = Math.max(0, Math.min(MOST_CROWDED, n));
            slack = give;
            found = false;
            Arrays.fill(sums, 0);
            findRests();
            int many = fill(0);
            told.clear();
            for (int place = 0; place < crowded && found; place++) {
                told.add(firstCrowd[place]);
            }
            return many;
        }

        private void findRests() {
            Arrays.fill(rests, 0);
            for (int place = crowded - 1; place >= 0; place--) {
                for (int ear = 0; ear < size; ear++) {
                    int behind = rests[(place + 1) * MOST_HEARD + ear];
                    rests[place * MOST_HEARD + ear] = behind + MOST_CROWD * voice(place, heardAt[ear]);
                }
            }
        }

        /** How many crowds there are from a PLACE on, with those ahead of it in their sums: a level a PLACE. */
        private int fill(int place) {
            if (place > crowded || isHopeless(place)) {
                return 0;
            }
            if (place == crowded) {
                keepFirst();
                return 1;
            }
            int ways = 0;
            for (int many = 0; many <= MOST_CROWD; many++) {
                crowd[place] = many;
                shout(place, many);
                ways += fill(place + 1);
                shout(place, -many);
            }
            return ways;
        }

        private boolean isHopeless(int place) {
            for (int ear = 0; ear < size; ear++) {
                int most = sums[ear] + rests[place * MOST_HEARD + ear];
                if (sums[ear] > heardAs[ear] + slack || most < heardAs[ear] - slack) {
                    return true;
                }
            }
            return false;
        }

        private void shout(int place, int many) {
            for (int ear = 0; ear < size; ear++) {
                sums[ear] += many * voice(place, heardAt[ear]);
            }
        }

        private void keepFirst() {
            if (!found) {
                found = true;
                System.arraycopy(crowd, 0, firstCrowd, 0, crowded);
            }
        }
    }

    /** GAS, BREATH, LIMIT and FIRE, and how long it lasts. */
    private static final class Air {
        private static final int MOST_MINUTES = 9999;

        private final Mine mine;
        private int gas = 0;
        private int breath = 1;
        private int limit = 1000;
        private int fire = 500;

        Air(Mine mine) {
            this.mine = mine;
        }

        int set(int what, int v) {
            int was = NONE;
            if (what == 0 && within(v, 0, 9999)) {
                was = gas;
                gas = v;
            } else if (what == 1 && within(v, 1, 99)) {
                was = breath;
                breath = v;
            } else if (what == 2 && within(v, 1, 9999)) {
                was = limit;
                limit = v;
            } else if (what == 3 && within(v, 1, 9999)) {
                was = fire;
                fire = v;
            }
            return was;
        }

        boolean burns() {
            return gas >= fire;
        }

        /**
         * GAS never falls, so that of the last minute alone tells whether it stays below LIMIT; with all at PLACE 0
         * and nobody staying there is no such minute, so GAS of now is not asked.
         */
        int stay() {
            int people = mine.people();
            if (people == 0) {
                return MOST_MINUTES;
            }
            int lengths = 0;
            for (int person = 0; person < people; person++) {
                if (mine.farOut(person) >= NO_WAY) {
                    return -2;
                }
                lengths += mine.farOut(person);
            }
            int atLast = gas + breath * lengths;
            int each = breath * people;
            if (atLast >= limit || each < 1) {
                return lengths == 0 ? 0 : -2;
            }
            return Math.min(MOST_MINUTES, (limit - 1 - atLast) / each);
        }

        int tellLeaving(Row told) {
            int in = mine.people();
            int gone = 0;
            int level = gas;
            told.clear();
            for (int turn = 0; turn < mine.people(); turn++) {
                int next = nearest(gone);
                if (next == NONE) {
                    break;
                }
                level += breath * in * mine.farOut(next);
                if (level >= limit) {
                    break;
                }
                told.add(next);
                gone |= 1 << next;
                in--;
            }
            return told.size();
        }

        private int nearest(int gone) {
            int found = NONE;
            for (int person = 0; person < mine.people(); person++) {
                boolean goes = !has(gone, person) && mine.farOut(person) < NO_WAY;
                if (goes && (found == NONE || mine.farOut(person) < mine.farOut(found))) {
                    found = person;
                }
            }
            return found;
        }
    }

    /** The blind judge: claps, echoes and how likely each is. */
    private static final class Ears {
        private static final int MOST_OFF = 3;
        private static final int MOST_HEARD_LATE = 999;

        private final Mine mine;
        private final int[] chances = new int[MOST_OFF + 1];
        private final int[] weights = new int[PLACES];

        Ears(Mine mine) {
            this.mine = mine;
            chances[0] = 6;
            chances[1] = 3;
            chances[2] = 1;
        }

        int setChance(int d, int v) {
            if (!within(d, 0, MOST_OFF) || !within(v, 0, 9)) {
                return NONE;
            }
            int others = 0;
            for (int off = 0; off <= MOST_OFF; off++) {
                others += off == d ? 0 : chances[off];
            }
            if (others + v == 0) {
                return NONE;
            }
            int was = chances[d];
            chances[d] = v;
            return was;
        }

        boolean canHear(int late, int back) {
            return within(late, 0, MOST_HEARD_LATE) && within(back, 0, MOST_HEARD_LATE);
        }

        int tellSound(int from, int at, Row told) {
            if (!mine.isPlace(from) || !mine.isPlace(at)) {
                return NONE;
            }
            int late = mine.distance(from, at);
            if (late >= NO_WAY) {
                return -2;
            }
            int same = 0;
            for (int place = 0; place < PLACES; place++) {
                if (mine.distance(place, at) == late && mine.wallOf(place) == mine.wallOf(from)) {
                    same |= 1 << place;
                }
            }
            told.tell(late, 2 * mine.wallOf(from));
            told.add(same);
            return 0;
        }

        private int chanceOf(int off) {
            int away = Math.abs(off);
            return within(away, 0, MOST_OFF) ? chances[away] : 0;
        }

        /** How likely a clap of a PLACE would be heard so at another one. */
        private int weightOf(int from, int at, int late, int back) {
            if (!mine.joined(from, at)) {
                return 0;
            }
            return chanceOf(late - mine.distance(from, at)) * chanceOf(back - 2 * mine.wallOf(from));
        }

        int tellPlace(int person, int late, int back, Row told) {
            for (int place = 0; place < PLACES; place++) {
                weights[place] = weightOf(place, mine.placeOf(person), late, back);
            }
            return likeliest(PLACES, told);
        }

        int tellClapper(int person, int late, int back, Row told) {
            int people = Math.min(PLACES, mine.people());
            for (int other = 0; other < people; other++) {
                int weight = weightOf(mine.placeOf(other), mine.placeOf(person), late, back);
                weights[other] = other == person ? 0 : weight;
            }
            return likeliest(people, told);
        }

        private int likeliest(int size, Row told) {
            int found = NONE;
            int most = 0;
            int sum = 0;
            for (int one = 0; one < size; one++) {
                sum += weights[one];
                if (weights[one] > most) {
                    found = one;
                    most = weights[one];
                }
            }
            if (found == NONE) {
                return -2;
            }
            told.tellFraction(most, sum);
            return found;
        }
    }
}
