import java.math.BigInteger;
import java.util.ArrayList;
import java.util.Arrays;
import java.util.Comparator;
import java.util.List;
import java.util.Map;
import java.util.NoSuchElementException;
import java.util.TreeMap;

/** The document written a second time, as slowly and plainly as it can be: all ways are tried, nothing is kept ready. */
public final class PlainFair {
    private record Tunnel(int a, int b, int length) { }

    private record Count(int place, int minute, int many) { }

    private record Theft(int place, int from, int to, int taken) { }

    private record Stay(int person, int place, int from, int to) { }

    private record Clink(int place, int minute, int coin) { }

    private record Sale(int item, int seller, int buyer, int sellerPurse, int buyerPurse) { }

    private record Heard(int place, int v) { }

    private static final class Person {
        int place;
        int purse;
        int load;
        final int[] wants = new int[10];
    }

    private static final class Item {
        int good;
        int owner;
        boolean sold;
        final List<Integer> prices = new ArrayList<>();

        int price(int late) {
            return prices.get(Math.max(0, prices.size() - 1 - late));
        }
    }

    private final List<Tunnel> tunnels = new ArrayList<>();
    private final int[] walls = new int[10];
    private final List<Person> people = new ArrayList<>();
    private final List<Integer> often = new ArrayList<>();
    private final List<Integer> costs = new ArrayList<>();
    private final int[][] answers = new int[10][6];
    private final StringBuilder text = new StringBuilder();
    private String theRule = "";
    private final List<Item> items = new ArrayList<>();
    private final List<Sale> sales = new ArrayList<>();
    private int theWind = 20;
    private final List<Count> counts = new ArrayList<>();
    private final List<Stay> stays = new ArrayList<>();
    private final List<Clink> clinks = new ArrayList<>();
    private final List<Heard> heards = new ArrayList<>();
    private final int[] gases = {0, 1, 1000, 500};
    private final int[] chances = {6, 3, 1, 0};
    private List<Long> told = new ArrayList<>();

    private static boolean in(int v, int least, int most) {
        return least <= v && v <= most;
    }

    private static boolean place(int p) {
        return in(p, 0, 9);
    }

    private boolean isPerson(int p) {
        return in(p, 0, people.size() - 1);
    }

    private void tell(long... numbers) {
        told = new ArrayList<>();
        for (long v : numbers) {
            told.add(v);
        }
    }

    private static List<Integer> ones(int bits) {
        List<Integer> all = new ArrayList<>();
        for (int i = 0; i < 32; i++) {
            if ((bits >> i & 1) == 1) {
                all.add(i);
            }
        }
        return all;
    }

    // ---- the mine

    public int tunnel(int a, int b, int length) {
        if (!place(a) || !place(b) || a == b || !in(length, 1, 20) || tunnels.size() == 16) {
            return -1;
        }
        tunnels.add(new Tunnel(a, b, length));
        return tunnels.size() - 1;
    }

    public int wall(int place, int v) {
        if (!place(place) || !in(v, 0, 20)) {
            return -1;
        }
        int was = walls[place];
        walls[place] = v;
        return was;
    }

    public int far(int a, int b) {
        if (!place(a) || !place(b)) {
            return -1;
        }
        int[] least = new int[10];
        Arrays.fill(least, 999);
        least[a] = 0;
        for (int turn = 0; turn < 10; turn++) {
            for (Tunnel t : tunnels) {
                least[t.a] = Math.min(least[t.a], least[t.b] + t.length);
                least[t.b] = Math.min(least[t.b], least[t.a] + t.length);
            }
        }
        return least[b];
    }

    public int person(int place, int purse, int load) {
        if (!place(place) || !in(purse, 0, 999) || !in(load, 0, 9) || people.size() == 8) {
            return -1;
        }
        Person p = new Person();
        p.place = place;
        p.purse = purse;
        p.load = load;
        people.add(p);
        return people.size() - 1;
    }

    public int walk(int person, int place) {
        if (!isPerson(person) || !place(place)) {
            return -1;
        }
        int far = far(people.get(person).place, place);
        if (far == 999) {
            return -2;
        }
        people.get(person).place = place;
        return far;
    }

    public int of(int person, int what) {
        if (!isPerson(person) || !in(what, 0, 2)) {
            throw new NoSuchElementException();
        }
        Person p = people.get(person);
        return new int[] {p.place, p.purse, p.load}[what];
    }

    // ---- goods and tests

    public int good(int v) {
        if (!in(v, 1, 9) || often.size() == 10) {
            return -1;
        }
        often.add(v);
        return often.size() - 1;
    }

    public int test(int cost) {
        if (!in(cost, 1, 9) || costs.size() == 6) {
            return -1;
        }
        costs.add(cost);
        return costs.size() - 1;
    }

    private boolean isGood(int g) {
        return in(g, 0, often.size() - 1);
    }

    private boolean isTest(int t) {
        return in(t, 0, costs.size() - 1);
    }

    private boolean areGoods(int bits) {
        return bits > 0 && bits < Math.pow(2, often.size());
    }

    private boolean areTests(int bits) {
        return bits >= 0 && bits < Math.pow(2, costs.size());
    }

    public int answer(int good, int test, int v) {
        if (!isGood(good) || !isTest(test) || !in(v, 0, 9)) {
            return -1;
        }
        int was = answers[good][test];
        answers[good][test] = v;
        return was;
    }

    public int sheet(int test, int kind, int n, int f, int step) {
        if (!isTest(test) || !in(kind, 0, 3) || n > 10) {
            return -1;
        }
        if (kind < 3 && n < 0) {
            return -2;
        }
        int[] entries = new int[10];
        int v = f;
        for (int i = 0; kind < 3 && i < n; i++, v += step) {
            int held = kind == 0 ? (byte) v : kind == 1 ? (short) v : v;
            entries[i] = held < 0 ? 0 : held > 9 ? 9 : held;
        }
        int sum = 0;
        for (int g = 0; g < often.size(); g++) {
            answers[g][test] = entries[g];
            sum += entries[g];
        }
        return kind == 3 ? -3 : sum;
    }

    public int apart(int a, int b) {
        if (!isGood(a) || !isGood(b)) {
            return -1;
        }
        int bits = 0;
        for (int t = 0; t < costs.size(); t++) {
            bits += answers[a][t] != answers[b][t] ? 1 << t : 0;
        }
        return bits;
    }

    private boolean alike(int a, int b, int tests) {
        return (apart(a, b) & tests) == 0;
    }

    public int sure(int goods, int tests) {
        if (!areGoods(goods) || !areTests(tests)) {
            return -1;
        }
        int bits = 0;
        for (int a : ones(goods)) {
            boolean alone = true;
            for (int b : ones(goods)) {
                alone &= a == b || !alike(a, b, tests);
            }
            bits += alone ? 1 << a : 0;
        }
        tell(bits);
        return ones(bits).size();
    }

    private boolean allApart(int goods, int tests) {
        for (int a : ones(goods)) {
            for (int b : ones(goods)) {
                if (a < b && alike(a, b, tests)) {
                    return false;
                }
            }
        }
        return true;
    }

    private static int sum(List<Integer> of, int bits) {
        int sum = 0;
        for (int i : ones(bits)) {
            sum += of.get(i);
        }
        return sum;
    }

    public int keep(int goods) {
        if (!areGoods(goods)) {
            return -1;
        }
        List<Integer> fit = new ArrayList<>();
        for (int bits = 0; areTests(bits); bits++) {
            if (allApart(goods, bits)) {
                fit.add(bits);
            }
        }
        if (fit.isEmpty()) {
            return -2;
        }
        int best = least(fit, costs);
        tell(best);
        return ones(best).size();
    }

    private static int least(List<Integer> sets, List<Integer> weights) {
        return sets.stream().min(Comparator.<Integer>comparingInt(s -> ones(s).size())
            .thenComparingInt(s -> sum(weights, s)).thenComparingInt(s -> s)).get();
    }

    public int ban(int goods, int tests) {
        if (!areGoods(goods) || !areTests(tests)) {
            return -1;
        }
        List<Integer> fit = new ArrayList<>();
        for (int bits = 0; bits <= goods; bits++) {
            if ((bits & ~goods) == 0 && allApart(goods & ~bits, tests)) {
                fit.add(bits);
            }
        }
        int best = least(fit, often);
        tell(best);
        return ones(best).size();
    }

    private List<Integer> parts(int set, int test) {
        Map<Integer, Integer> byAnswer = new TreeMap<>();
        for (int g : ones(set)) {
            byAnswer.merge(answers[g][test], 1 << g, Integer::sum);
        }
        return new ArrayList<>(byAnswer.values());
    }

    private record Grown(int sum, int test, int most) { }

    private Grown grow(int set) {
        Grown best = new Grown(0, -1, 0);
        for (int t = 0; t < costs.size(); t++) {
            List<Integer> parts = parts(set, t);
            if (parts.size() < 2) {
                continue;
            }
            int sum = costs.get(t) * sum(often, set);
            int most = 0;
            for (int part : parts) {
                Grown g = grow(part);
                sum += g.sum;
                most = Math.max(most, g.most);
            }
            if (best.test == -1 || sum < best.sum) {
                best = new Grown(sum, t, most + costs.get(t));
            }
        }
        return best;
    }

    public int tree(int goods) {
        if (!areGoods(goods)) {
            return -1;
        }
        Grown g = grow(goods);
        tell(g.test, g.most);
        return g.sum;
    }

    private int telling(int set, int coppers) {
        if (ones(set).size() == 1) {
            return sum(often, set);
        }
        int best = 0;
        for (int t = 0; t < costs.size(); t++) {
            List<Integer> parts = parts(set, t);
            if (parts.size() > 1 && costs.get(t) <= coppers) {
                int sum = 0;
                for (int part : parts) {
                    sum += telling(part, coppers - costs.get(t));
                }
                best = Math.max(best, sum);
            }
        }
        return best;
    }

    public int copper(int goods, int coppers) {
        return areGoods(goods) && in(coppers, 0, 99) ? telling(goods, coppers) : -1;
    }

    public int asks(int goods, int good) {
        if (!areGoods(goods) || !isGood(good) || !ones(goods).contains(good)) {
            return -1;
        }
        tell();
        int left = goods;
        for (int t = grow(left).test; t != -1; t = grow(left).test) {
            told.add((long) t);
            for (int part : parts(left, t)) {
                left = ones(part).contains(good) ? part : left;
            }
        }
        told.add((long) left);
        return told.size() - 1;
    }

    // ---- rights of way

    public int sign(int v) {
        if (text.length() > 56) {
            return -1;
        }
        text.append((char) (v >> 24 & 255)).append((char) (v >> 16 & 255));
        text.append((char) (v >> 8 & 255)).append((char) (v & 255));
        return text.length();
    }

    public boolean end(int n) {
        if (n < 0 || n > text.length()) {
            return false;
        }
        text.setLength(n);
        return true;
    }

    /** Reads an EXPRESSION from the top down and works it out for one at once. */
    private final class Reader {
        final String signs;
        final Person one;
        final int number;
        int at = 0;
        int open = 0;

        Reader(String signs, Person one, int number) {
            this.signs = signs;
            this.one = one;
            this.number = number;
        }

        boolean next(String some) {
            return at < signs.length() && some.indexOf(signs.charAt(at)) >= 0;
        }

        int whole() {
            int v = or();
            if (at < signs.length()) {
                throw new IllegalStateException();
            }
            return v;
        }

        int or() {
            int v = and();
            while (next("|")) {
                at++;
                int w = and();
                v = v != 0 || w != 0 ? 1 : 0;
            }
            return v;
        }

        int and() {
            int v = compare();
            while (next("&")) {
                at++;
                int w = compare();
                v = v != 0 && w != 0 ? 1 : 0;
            }
            return v;
        }

        int compare() {
            int v = sum();
            if (next("<>=")) {
                char c = signs.charAt(at++);
                int w = sum();
                boolean so = c == '<' ? v < w : c == '>' ? v > w : v == w;
                return so ? 1 : 0;
            }
            return v;
        }

        int sum() {
            int v = product();
            while (next("+-")) {
                char c = signs.charAt(at++);
                int w = product();
                v = c == '+' ? v + w : v - w;
            }
            return v;
        }

        int product() {
            int v = ahead();
            while (next("*")) {
                at++;
                v *= ahead();
            }
            return v;
        }

        int ahead() {
            if (next("!")) {
                at++;
                return ahead() == 0 ? 1 : 0;
            }
            if (next("-")) {
                at++;
                return -ahead();
            }
            return thing();
        }

        int thing() {
            if (next("(") && open < 5) {
                at++;
                open++;
                int v = or();
                if (!next(")")) {
                    throw new IllegalStateException();
                }
                at++;
                open--;
                return v;
            }
            if (next("lunfwk")) {
                return sign(signs.charAt(at++));
            }
            int from = at;
            while (at < from + 3 && next("0123456789")) {
                at++;
            }
            if (from == at) {
                throw new IllegalStateException();
            }
            return Integer.parseInt(signs.substring(from, at));
        }

        int sign(char c) {
            int there = (int) people.stream().filter(p -> p.place == one.place).count();
            return c == 'l' ? one.load : c == 'u' ? one.purse : c == 'n' ? number
                : c == 'f' ? far(0, one.place) : c == 'w' ? walls[one.place] : there;
        }
    }

    public int rule() {
        String all = text.toString();
        text.setLength(0);
        if (all.isEmpty()) {
            theRule = "";
            return 0;
        }
        Reader r = new Reader(all.substring(0, Math.min(40, all.length())), new Person(), 0);
        try {
            r.whole();
        } catch (IllegalStateException e) {
            return -1 - r.at;
        }
        if (all.length() > 40) {
            return -41;
        }
        theRule = all;
        return 0;
    }

    private int value(int person) {
        return theRule.isEmpty() ? 0 : new Reader(theRule, people.get(person), person).whole();
    }

    public int first(int one, int other) {
        if (!isPerson(one) || !isPerson(other) || one == other) {
            return -1;
        }
        tell(value(one), value(other));
        return goesAhead(Math.min(one, other), Math.max(one, other));
    }

    private int goesAhead(int lesser, int greater) {
        return value(greater) > value(lesser) ? greater : lesser;
    }

    public int order() {
        List<Integer> all = new ArrayList<>();
        int pairs = 0;
        for (int i = 0; i < people.size(); i++) {
            for (int other : all) {
                pairs += value(other) == value(i) ? 1 : 0;
            }
            all.add(i);
        }
        all.sort((a, b) -> Long.compare(value(b), value(a)));
        tell(all.stream().mapToLong(i -> i).toArray());
        return pairs;
    }

    // ---- asking, selling

    public int want(int person, int good, int v) {
        if (!isPerson(person) || !isGood(good) || !in(v, 0, 99)) {
            return -1;
        }
        int was = people.get(person).wants[good];
        people.get(person).wants[good] = v;
        return was;
    }

    public int item(int good, int owner, int price) {
        if (!isGood(good) || !isPerson(owner) || !in(price, 0, 99) || items.size() == 12) {
            return -1;
        }
        Item i = new Item();
        i.good = good;
        i.owner = owner;
        i.prices.add(price);
        items.add(i);
        return items.size() - 1;
    }

    public int thing(int item, int what) {
        if (!in(item, 0, items.size() - 1) || !in(what, 0, 3)) {
            throw new NoSuchElementException();
        }
        Item i = items.get(item);
        return new int[] {i.good, i.owner, i.price(0), i.sold ? 1 : 0}[what];
    }

    public int wind(int v) {
        if (!in(v, 1, 20)) {
            return -1;
        }
        int was = theWind;
        theWind = v;
        return was;
    }

    private int[] round() {
        int[] asked = new int[items.size()];
        for (int p = 0; p < people.size(); p++) {
            int best = -1;
            int most = -1;
            for (int i = 0; i < items.size(); i++) {
                Item it = items.get(i);
                int far = far(people.get(it.owner).place, people.get(p).place);
                if (it.sold || it.owner == p || far == 999) {
                    continue;
                }
                int price = it.price(Math.min(9, far / theWind));
                int gain = people.get(p).wants[it.good] - price;
                if (price <= people.get(p).purse && gain > most) {
                    best = i;
                    most = gain;
                }
            }
            if (best >= 0) {
                asked[best] += 1 << p;
            }
        }
        for (int i = 0; i < items.size(); i++) {
            Item it = items.get(i);
            int many = ones(asked[i]).size();
            int next = it.price(0) + (it.sold || many == 1 ? 0 : many == 0 ? -1 : 1);
            it.prices.add(Math.max(0, Math.min(99, next)));
        }
        return asked;
    }

    public int rounds(int n) {
        if (!in(n, 0, 200)) {
            return -1;
        }
        int[] asked = new int[items.size()];
        int changed = 0;
        for (int r = 0; r < n; r++) {
            asked = round();
            changed = (int) items.stream().filter(i -> i.price(0) != i.price(1)).count();
        }
        tell(Arrays.stream(asked).asLongStream().toArray());
        return changed;
    }

    private List<Integer> state() {
        List<Integer> all = new ArrayList<>();
        for (Item i : items) {
            for (int late = 0; late <= 9; late++) {
                all.add(i.price(late));
            }
        }
        return all;
    }

    public int settles() {
        List<Integer> sizes = new ArrayList<>();
        items.forEach(i -> sizes.add(i.prices.size()));
        List<List<Integer>> gone = new ArrayList<>();
        gone.add(state());
        int answer = -999;
        for (int r = 1; r <= 200 && answer == -999; r++) {
            round();
            int before = gone.indexOf(state());
            if (before >= 0) {
                answer = before == r - 1 ? before : -1 - (r - before);
            }
            gone.add(state());
        }
        for (int i = 0; i < items.size(); i++) {
            List<Integer> prices = items.get(i).prices;
            prices.subList(sizes.get(i), prices.size()).clear();
        }
        return answer;
    }

    public int buy(int person, int item) {
        if (!isPerson(person) || !in(item, 0, items.size() - 1)) {
            return -1;
        }
        Item i = items.get(item);
        Person buyer = people.get(person);
        Person seller = people.get(i.owner);
        if (i.sold) {
            return -2;
        }
        if (i.owner == person || i.price(0) > buyer.purse) {
            return -3;
        }
        if (far(buyer.place, seller.place) == 999) {
            return -4;
        }
        sales.add(new Sale(item, i.owner, person, seller.purse, buyer.purse));
        buyer.purse -= i.price(0);
        seller.purse = Math.min(999, seller.purse + i.price(0));
        i.owner = person;
        i.sold = true;
        return buyer.purse;
    }

    public int undo() {
        if (sales.isEmpty()) {
            return -2;
        }
        Sale s = sales.remove(sales.size() - 1);
        people.get(s.seller).purse = s.sellerPurse;
        people.get(s.buyer).purse = s.buyerPurse;
        items.get(s.item).owner = s.seller;
        items.get(s.item).sold = false;
        return s.item;
    }

    // ---- thieves, clinks

    public int counted(int place, int minute, int many) {
        if (!place(place) || !in(minute, 0, 999) || !in(many, 0, 99) || counts.size() == 16) {
            return -1;
        }
        counts.add(new Count(place, minute, many));
        return counts.size();
    }

    public int been(int person, int place, int from, int to) {
        if (!isPerson(person) || !place(place) || !in(from, 0, 999) || !in(to, 0, 999) || to < from) {
            return -1;
        }
        if (stays.size() == 20) {
            return -1;
        }
        stays.add(new Stay(person, place, from, to));
        return stays.size();
    }

    private List<Theft> thefts(int place) {
        List<Count> here = new ArrayList<>(counts.stream().filter(c -> c.place == place).toList());
        here.sort(Comparator.comparingInt(Count::minute));
        List<Theft> all = new ArrayList<>();
        for (int i = 1; i < here.size(); i++) {
            Count a = here.get(i - 1);
            Count b = here.get(i);
            if (b.many < a.many) {
                all.add(new Theft(place, a.minute, b.minute, a.many - b.many));
            }
        }
        return all;
    }

    public int missing(int place) {
        if (!place(place)) {
            return -1;
        }
        List<Theft> all = thefts(place);
        if (all.isEmpty()) {
            tell();
        } else {
            tell(all.get(0).from, all.get(0).to, all.stream().mapToInt(Theft::taken).sum());
        }
        return all.size();
    }

    private int there(int place, int from, int to) {
        int bits = 0;
        for (Stay s : stays) {
            for (int minute = from; minute <= to; minute++) {
                if (s.place == place && s.from <= minute && minute <= s.to) {
                    bits |= 1 << s.person;
                }
            }
        }
        return bits;
    }

    public int suspects(int place, int k) {
        if (!place(place) || k < 0) {
            return -1;
        }
        List<Theft> all = thefts(place);
        return k >= all.size() ? -2 : there(place, all.get(k).from, all.get(k).to);
    }

    public int gang() {
        List<Integer> sets = new ArrayList<>();
        for (int place = 0; place < 10; place++) {
            for (Theft t : thefts(place)) {
                sets.add(there(place, t.from, t.to));
            }
        }
        if (sets.contains(0)) {
            return -2;
        }
        int best = (1 << people.size()) - 1;
        for (int bits = best; bits >= 0; bits--) {
            final int some = bits;
            if (sets.stream().allMatch(s -> (s & some) != 0) && ones(bits).size() <= ones(best).size()) {
                best = bits;
            }
        }
        tell(best);
        return ones(best).size();
    }

    public int clink(int place, int minute, int coin) {
        if (!place(place) || !in(minute, 0, 999) || !in(coin, 1, 99) || clinks.size() == 6) {
            return -1;
        }
        clinks.add(new Clink(place, minute, coin));
        return clinks.size();
    }

    private int give(int[] to, int clink, long[] can) {
        if (clink == clinks.size()) {
            for (int i = 0; i < clink; i++) {
                can[i] |= 1L << to[i];
            }
            return 1;
        }
        int ways = 0;
        Clink c = clinks.get(clink);
        for (int p : ones(there(c.place, c.minute, c.minute))) {
            to[clink] = p;
            int sum = 0;
            for (int i = 0; i <= clink; i++) {
                sum += to[i] == p ? clinks.get(i).coin : 0;
            }
            ways += sum <= people.get(p).purse ? give(to, clink + 1, can) : 0;
        }
        return ways;
    }

    public int hands() {
        long[] can = new long[clinks.size()];
        int ways = give(new int[clinks.size()], 0, can);
        tell(can);
        return ways;
    }

    // ---- crowds

    private int voice(int a, int b) {
        return far(a, b) == 999 ? 0 : 60 / (1 + far(a, b));
    }

    public int loud(int place) {
        return place(place) ? people.stream().mapToInt(p -> voice(p.place, place)).sum() : -1;
    }

    public int loudest() {
        int most = -1;
        int found = -1;
        int equal = 0;
        for (int place = 9; place >= 0; place--) {
            if (loud(place) >= most) {
                equal = loud(place) == most ? equal + 1 : 1;
                most = loud(place);
                found = place;
            }
        }
        tell(most, equal);
        return found;
    }

    public int heard(int place, int v) {
        if (!place(place) || !in(v, 0, 999) || heards.size() == 6) {
            return -1;
        }
        heards.add(new Heard(place, v));
        return heards.size();
    }

    public int crowds(int n, int give) {
        if (!in(n, 1, 6) || !in(give, 0, 99)) {
            return -1;
        }
        int[][] voices = new int[10][10];
        for (int a = 0; a < 10; a++) {
            for (int b = 0; b < 10; b++) {
                voices[a][b] = voice(a, b);
            }
        }
        int all = (int) Math.pow(5, n);
        int ways = 0;
        tell();
        for (int number = 0; number < all; number++) {
            int[] crowd = new int[n];
            for (int i = n - 1, rest = number; i >= 0; i--, rest /= 5) {
                crowd[i] = rest % 5;
            }
            boolean fits = true;
            for (Heard h : heards) {
                int sum = 0;
                for (int i = 0; i < n; i++) {
                    sum += crowd[i] * voices[i][h.place];
                }
                fits &= Math.abs(sum - h.v) <= give;
            }
            if (fits) {
                ways++;
                if (ways == 1) {
                    tell(Arrays.stream(crowd).asLongStream().toArray());
                }
            }
        }
        return ways;
    }

    // ---- gas

    public int gas(int what, int v) {
        int[] least = {0, 1, 1, 1};
        int[] most = {9999, 99, 9999, 9999};
        if (!in(what, 0, 3) || !in(v, least[what], most[what])) {
            return -1;
        }
        int was = gases[what];
        gases[what] = v;
        return was;
    }

    private boolean allOut(int stay) {
        int last = 0;
        for (Person p : people) {
            last = Math.max(last, far(0, p.place));
        }
        long level = gases[0];
        for (int minute = 0; minute < stay + last; minute++) {
            for (Person p : people) {
                level += stay + far(0, p.place) > minute ? gases[1] : 0;
            }
            if (level >= gases[2]) {
                return false;
            }
        }
        return true;
    }

    public int lasts() {
        if (people.isEmpty()) {
            return 9999;
        }
        for (Person p : people) {
            if (far(0, p.place) == 999) {
                return -2;
            }
        }
        if (!allOut(0)) {
            return -2;
        }
        int fine = 0;
        int bad = 10000;
        while (bad - fine > 1) {
            int middle = (fine + bad) / 2;
            if (allOut(middle)) {
                fine = middle;
            } else {
                bad = middle;
            }
        }
        return fine;
    }

    public int leave() {
        List<Integer> going = new ArrayList<>();
        for (int p = 0; p < people.size(); p++) {
            if (far(0, people.get(p).place) < 999) {
                going.add(p);
            }
        }
        going.sort(Comparator.comparingInt(p -> far(0, people.get(p).place)));
        tell();
        int level = gases[0];
        for (int p : going) {
            for (int gone = 0; gone < far(0, people.get(p).place); gone++) {
                level += gases[1] * (people.size() - told.size());
            }
            if (level >= gases[2]) {
                break;
            }
            told.add((long) p);
        }
        return told.size();
    }

    // ---- a judge, a lamp

    public int ear(int d, int v) {
        if (!in(d, 0, 3) || !in(v, 0, 9)) {
            return -1;
        }
        int was = chances[d];
        chances[d] = v;
        if (Arrays.stream(chances).sum() == 0) {
            chances[d] = was;
            return -1;
        }
        return was;
    }

    public int sound(int from, int at) {
        if (!place(from) || !place(at)) {
            return -1;
        }
        if (far(from, at) == 999) {
            return -2;
        }
        int bits = 0;
        for (int p = 0; p < 10; p++) {
            bits += far(p, at) == far(from, at) && walls[p] == walls[from] ? 1 << p : 0;
        }
        tell(far(from, at), 2 * walls[from], bits);
        return 0;
    }

    private int chance(int off) {
        return Math.abs(off) > 3 ? 0 : chances[Math.abs(off)];
    }

    private int likeliest(List<Integer> from, int skip, int at, int late, int back) {
        List<Integer> weights = new ArrayList<>();
        for (int i = 0; i < from.size(); i++) {
            int p = from.get(i);
            boolean can = i != skip && far(p, at) < 999;
            weights.add(can ? chance(late - far(p, at)) * chance(back - 2 * walls[p]) : 0);
        }
        int sum = weights.stream().mapToInt(w -> w).sum();
        if (sum == 0) {
            return -2;
        }
        int most = weights.stream().mapToInt(w -> w).max().getAsInt();
        int shared = BigInteger.valueOf(most).gcd(BigInteger.valueOf(sum)).intValue();
        tell(most / shared, sum / shared);
        return weights.indexOf(most);
    }

    public int judge(int person, int late, int back) {
        if (!isPerson(person) || !in(late, 0, 999) || !in(back, 0, 999)) {
            return -1;
        }
        List<Integer> all = List.of(0, 1, 2, 3, 4, 5, 6, 7, 8, 9);
        return likeliest(all, -1, people.get(person).place, late, back);
    }

    public int who(int person, int late, int back) {
        if (!isPerson(person) || !in(late, 0, 999) || !in(back, 0, 999)) {
            return -1;
        }
        List<Integer> all = people.stream().map(p -> p.place).toList();
        return likeliest(all, person, people.get(person).place, late, back);
    }

    public int lamp(int place) {
        if (!place(place)) {
            return -1;
        }
        if (gases[0] >= gases[3]) {
            people.forEach(p -> p.purse = 0);
            return -2;
        }
        int seen = 0;
        for (int p = 0; p < people.size(); p++) {
            seen += far(place, people.get(p).place) <= 10 ? 1 << p : 0;
        }
        int theirs = 0;
        int wanted = 0;
        for (int i = 0; i < items.size(); i++) {
            Item it = items.get(i);
            if (ones(seen).contains(it.owner)) {
                theirs += 1 << i;
                long many = ones(seen).stream()
                    .filter(p -> p != it.owner && people.get(p).wants[it.good] > it.price(0)).count();
                wanted += !it.sold && many > 1 ? 1 << i : 0;
            }
        }
        tell(theirs, wanted);
        return seen;
    }

    // ---- kept

    public int count(int what) {
        int sold = 0;
        for (int i = 0; i < items.size(); i++) {
            sold += items.get(i).sold ? 1 << i : 0;
        }
        int purses = people.stream().mapToInt(p -> p.purse).sum();
        int[] all = {tunnels.size(), people.size(), often.size(), costs.size(), items.size(), sold, sales.size(),
            purses, told.size(), text.length()};
        return in(what, 0, 9) ? all[what] : -1;
    }

    public long row(int i) {
        if (!in(i, 0, told.size() - 1)) {
            throw new NoSuchElementException();
        }
        return told.get(i);
    }
}
