/** Promises 51 and 52: what is kept, and the ROW. */
public final class KeptTest {
    private static final String WHATS = "What 0: TUNNELS, 1: PEOPLE, 2: GOODS, 3: TESTS, 4: ITEMS, "
        + "5: ITEMS SOLD (bits), 6: sales that can be undone, 7: the sum of PURSES, 8: numbers of the ROW, "
        + "9: signs of THE TEXT.";

    public static void main(String[] args) {
        promise51Count();
        promise51AtItsMost();
        promise51AnotherWhat();
        promise52Row();
        promise52NoneSuch();
        promise52CallsWithoutOne();
        Check.done(51, 52);
    }

    private static void promise51Count() {
        Check.promise(51, WHATS);
        FairByEar x = new FairByEar();
        for (int what = 0; what <= 9; what++) {
            Check.due("new: count(" + what + ")", x.count(what), 0);
        }
        x.tunnel(0, 1, 1);
        x.tunnel(0, 1, 1);
        x.person(0, 100, 0);
        x.person(0, 23, 0);
        x.person(0, 0, 0);
        for (int i = 0; i < 4; i++) {
            x.good(1);
        }
        for (int i = 0; i < 5; i++) {
            x.test(1);
        }
        for (int i = 0; i < 6; i++) {
            x.item(0, i % 2, 0);
        }
        x.buy(0, 1);
        x.buy(1, 4);
        x.order();
        x.sign(0);
        x.sign(0);
        x.end(7);
        int[] due = {2, 3, 4, 5, 6, 18, 2, 123, 3, 7};
        for (int what = 0; what < 10; what++) {
            Check.due("count(" + what + ")", x.count(what), due[what]);
        }
        x.undo();
        Check.due("sold", x.count(5), 2);
        Check.due("sales", x.count(6), 1);
    }

    private static void promise51AtItsMost() {
        Check.promise(51, WHATS);
        FairByEar x = Fairs.full();
        int[] due = {16, 8, 10, 6, 12, 0, 0, 8 * 99 + 100 * 28, 2, 60};
        for (int what = 0; what < 10; what++) {
            Check.due("count(" + what + ") of a full one", x.count(what), due[what]);
        }
        FairByEar y = Fairs.people(999, 999, 999, 999, 999, 999, 999, 999);
        Check.due("the most in purses", y.count(7), 7992);
        y.good(1);
        for (int i = 0; i < 12; i++) {
            y.item(0, 0, 0);
        }
        for (int i = 0; i < 12; i++) {
            y.buy(1, i);
        }
        Check.due("all sold", y.count(5), 4095);
        Check.due("all can be undone", y.count(6), 12);
        y.rounds(0);
        Check.due("the longest row", y.count(8), 12);
    }

    private static void promise51AnotherWhat() {
        Check.promise(51, "NONE for another what.");
        Still.refusedBeyond("count", new int[] {5}, Still.ends(0, 9));
        Check.due("10", new FairByEar().count(10), -1);
        Check.due("-1", new FairByEar().count(-1), -1);
    }

    private static void promise52Row() {
        Check.promise(52, "Number i of the ROW.");
        FairByEar x = Fairs.people(1, 2, 3);
        x.order();
        Check.row(x, "order", 0, 1, 2);
        Check.rule(x, "-u*100");
        x.first(2, 0);
        Check.row(x, "below 0, too", -300, -100);
        FairByEar y = Fairs.full();
        y.rounds(0);
        for (int i = 0; i < 12; i++) {
            Check.due("of twelve", y.row(i), 0);
        }
    }

    private static void promise52NoneSuch() {
        Check.promise(52, "NoSuchElementException: none such.");
        Still.noneBeyond("row", new int[] {1}, Still.ends(0, 2));
        Still.none(FairByEar::new, "row", 0);
        Still.none(FairByEar::new, "row", -1);
        FairByEar x = Fairs.full();
        x.rounds(0);
        Check.none("the 13th", () -> x.row(12));
        x.loudest();
        Check.none("one of a longer row told ahead", () -> x.row(2));
        x.missing(0);
        x.gang();
        x.order();
        Check.none("the 9th", () -> x.row(8));
    }

    /** Calls that answer -2 tell no numbers, so that those told last stay. */
    private static void promise52CallsWithoutOne() {
        Check.promise(52, "Number i of the ROW.");
        FairByEar x = Fairs.some();
        x.order();
        long[] told = new long[x.count(8)];
        for (int i = 0; i < told.length; i++) {
            told[i] = x.row(i);
        }
        x.copper(7, 5);
        x.settles();
        x.lasts();
        x.loud(0);
        x.suspects(0, 0);
        x.far(0, 1);
        x.counted(0, 0, 0);
        x.rule();
        x.undo();
        x.of(0, 0);
        x.thing(0, 0);
        Check.row(x, "calls that do not say so", told);
        x.judge(0, 999, 0);
        x.who(0, 999, 0);
        x.sound(9, 0);
        x.sheet(0, 3, 0, 0, 0);
        x.sheet(1, 3, 0, 0, 0);
        Check.due("all alike now", x.keep(7), -2);
        x.counted(9, 999, 0);
        Check.due("a theft without a suspect", x.gang(), -2);
        x.gas(0, 9999);
        Check.due("fire", x.lamp(0), -2);
        Check.row(x, "calls that answer -2", told);
    }
}
