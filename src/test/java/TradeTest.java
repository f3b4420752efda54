/** Promises 24 to 26, 30 and 31: WANTS, ITEMS and sales. */
public final class TradeTest {
    public static void main(String[] args) {
        promise24Want();
        promise25Item();
        promise26Thing();
        promise30Buy();
        promise30LostAbove999();
        promise30InThisOrder();
        promise30Sold();
        promise30OwnOrAbovePurse();
        promise30NoWay();
        promise30NoneSuch();
        promise31Undo();
        promise31AsItWas();
        promise31None();
        Check.covered(24, 26);
        Check.done(30, 31);
    }

    private static void promise24Want() {
        Check.promise(24, "WANTS of one by a GOOD become v: what they were.");
        FairByEar x = Fairs.market(8, 10);
        for (int i = 0; i < 80; i++) {
            Check.due("at first 0", x.want(i / 10, i % 10, 99 - i), 0);
        }
        for (int i = 0; i < 80; i++) {
            Check.due("each its own", x.want(i / 10, i % 10, 0), 99 - i);
            Check.due("they were 0", x.want(i / 10, i % 10, 1), 0);
        }
        Check.promise(24, "Refused: others.");
        Still.refusedBeyond("want", new int[] {1, 1, 50}, Still.ends(0, 3), Still.ends(0, 2), Still.ends(0, 99));
        Still.refused(FairByEar::new, "want", 0, 0, 0);
        Still.refused(() -> Fairs.market(1, 0), "want", 0, 0, 0);
        Still.refused(() -> Fairs.market(0, 1), "want", 0, 0, 0);
        Still.refused(Fairs::full, "want", 8, 0, 1);
        Still.refused(Fairs::full, "want", 0, 10, 1);
    }

    private static void promise25Item() {
        Check.promise(25, "An ITEM of one of PEOPLE more, its PRICE: its number.");
        FairByEar x = Fairs.market(8, 10);
        for (int i = 0; i < 12; i++) {
            Check.due("item " + i, x.item(9 - i % 10, 7 - i % 8, 99 - 9 * i), i);
            Check.due("as many", x.count(4), i + 1);
        }
        for (int i = 0; i < 12; i++) {
            Check.due("good", x.thing(i, 0), 9 - i % 10);
            Check.due("owner", x.thing(i, 1), 7 - i % 8);
            Check.due("price", x.thing(i, 2), 99 - 9 * i);
            Check.due("not sold", x.thing(i, 3), 0);
        }
        Check.promise(25, "Refused: others, 12.");
        Still.refusedBeyond("item", new int[] {1, 1, 50}, Still.ends(0, 2), Still.ends(0, 3), Still.ends(0, 99));
        Still.refused(Fairs::full, "item", 0, 0, 0);
        Still.refused(FairByEar::new, "item", 0, 0, 0);
        Still.refused(() -> Fairs.market(1, 0), "item", 0, 0, 0);
        Still.refused(() -> Fairs.market(0, 1), "item", 0, 0, 0);
    }

    private static void promise26Thing() {
        Check.promise(26, "Of an ITEM, what 0: GOOD, 1: OWNER, 2: PRICE, 3: 1 if SOLD.");
        FairByEar x = Fairs.market(3, 2);
        x.item(1, 2, 99);
        x.item(0, 1, 0);
        x.buy(0, 1);
        int[] due = {1, 2, 99, 0, 0, 0, 0, 1};
        for (int i = 0; i < 8; i++) {
            Check.due("item " + i / 4 + ", what " + i % 4, x.thing(i / 4, i % 4), due[i]);
        }
        Check.promise(26, "NoSuchElementException: none such, another what.");
        Still.noneBeyond("thing", new int[] {1, 1}, Still.ends(0, 2), Still.ends(0, 3));
        Still.none(FairByEar::new, "thing", 0, 0);
        Still.none(Fairs::full, "thing", 12, 0);
    }

    private static void promise30Buy() {
        Check.promise(30, "One buys an ITEM not SOLD of another OWNER at its PRICE: the ITEM is SOLD and its "
            + "own, the PRICE goes from PURSE to PURSE");
        FairByEar x = new FairByEar();
        x.tunnel(0, 9, 20);
        x.person(0, 100, 0);
        x.person(9, 50, 0);
        x.person(0, 7, 0);
        x.good(1);
        x.item(0, 0, 20);
        x.item(0, 0, 30);
        x.item(0, 0, 0);
        Check.due("the first", x.buy(1, 0), 30);
        Check.due("to purse", x.of(0, 1), 120);
        Check.due("from purse", x.of(1, 1), 30);
        Check.due("the third's is as it was", x.of(2, 1), 7);
        Check.due("its own", x.thing(0, 1), 1);
        Check.due("sold", x.thing(0, 3), 1);
        Check.due("bits", x.count(5), 1);
        Check.due("the others are not", x.thing(1, 3), 0);
        Check.due("the price is as it was", x.thing(0, 2), 20);
        Check.due("for nothing", x.buy(2, 2), 7);
        Check.due("bits", x.count(5), 1 + 4);
        Check.due("sales", x.count(6), 2);
        Check.promise(30, "PURSE left.");
        Check.due("all of a purse", x.buy(1, 1), 0);
        Check.due("all of a purse", x.of(1, 1), 0);
        Check.due("bits", x.count(5), 7);
    }

    private static void promise30LostAbove999() {
        Check.promise(30, "(what is above 999 is lost):");
        for (int purse : new int[] {978, 979, 980, 981, 999}) {
            FairByEar x = Fairs.people(purse, 50);
            x.good(1);
            x.item(0, 0, 20);
            Check.due("purse left", x.buy(1, 0), 30);
            Check.due("20 more than " + purse, x.of(0, 1), Math.min(999, purse + 20));
        }
    }

    /** Two of PEOPLE apart, each with an ITEM of 20; the second has too little and is told of all wrongs at once. */
    private static FairByEar apart() {
        FairByEar x = new FairByEar();
        x.person(0, 100, 0);
        x.person(5, 19, 0);
        x.person(0, 100, 0);
        x.good(1);
        x.item(0, 0, 20);
        x.item(0, 1, 20);
        x.item(0, 0, 20);
        x.buy(2, 2);
        return x;
    }

    private static void promise30InThisOrder() {
        Check.promise(30, "(asked in this order)");
        Still.still(TradeTest::apart, "-2", "buy", 1, 2);
        Still.still(TradeTest::apart, "-2", "buy", 2, 2);
        Still.still(TradeTest::apart, "-3", "buy", 1, 0);
        Still.still(TradeTest::apart, "-3", "buy", 1, 1);
        Still.still(TradeTest::apart, "-4", "buy", 0, 1);
    }

    private static void promise30Sold() {
        Check.promise(30, "-2: it is SOLD;");
        FairByEar x = Fairs.people(100, 50, 0);
        x.good(1);
        x.item(0, 0, 20);
        x.buy(1, 0);
        Check.due("its own", x.buy(1, 0), -2);
        Check.due("back to its first owner", x.buy(0, 0), -2);
        Check.due("for one with too little", x.buy(2, 0), -2);
        Check.due("one sale", x.count(6), 1);
        x.undo();
        Check.due("not sold any more", x.buy(1, 0), 30);
    }

    private static void promise30OwnOrAbovePurse() {
        Check.promise(30, "-3: its own, or above its PURSE;");
        FairByEar x = Fairs.people(100, 19, 20, 21);
        x.good(1);
        for (int i = 0; i < 3; i++) {
            x.item(0, 0, 20);
        }
        Check.due("its own", x.buy(0, 0), -3);
        Check.due("19", x.buy(1, 0), -3);
        Check.due("20", x.buy(2, 0), 0);
        Check.due("21", x.buy(3, 1), 1);
        Check.due("0", x.buy(2, 2), -3);
        Check.due("nothing went over", x.of(0, 1), 140);
    }

    private static void promise30NoWay() {
        Check.promise(30, "-4: there is no way from the one to the OWNER");
        FairByEar x = apart();
        Check.due("no way", x.buy(0, 1), -4);
        x.tunnel(0, 5, 20);
        Check.due("a way", x.buy(0, 1), 80 + 20);
    }

    private static void promise30NoneSuch() {
        Check.promise(30, "NONE: none such.");
        Still.refusedBeyond("buy", new int[] {1, 2}, Still.ends(0, 3), Still.ends(0, 2));
        Still.refused(FairByEar::new, "buy", 0, 0);
        Still.refused(() -> Fairs.people(1), "buy", 0, 0);
        Still.refused(Fairs::full, "buy", 8, 0);
        Still.refused(Fairs::full, "buy", 0, 12);
        Still.refused(TradeTest::apart, "buy", 3, 2);
    }

    private static void promise31Undo() {
        Check.promise(31, "The latest sale is undone:");
        FairByEar x = Fairs.market(2, 1);
        for (int i = 0; i < 12; i++) {
            x.item(0, 0, 1);
        }
        for (int i = 0; i < 12; i++) {
            x.buy(1, 11 - i);
            Check.due("sales", x.count(6), i + 1);
        }
        Check.due("all sold", x.count(5), 4095);
        for (int i = 0; i < 12; i++) {
            Check.due("the latest", x.undo(), i);
            Check.due("sales", x.count(6), 11 - i);
            Check.due("sold", x.count(5), 4095 - (2 << i) + 1);
        }
        Check.promise(31, "its ITEM.");
        x.buy(1, 7);
        Check.due("its item", x.undo(), 7);
        x.buy(1, 0);
        Check.due("the first of items", x.undo(), 0);
    }

    private static void promise31AsItWas() {
        Check.promise(31, "OWNER, PURSES of both, SOLD are as they were ahead of it:");
        FairByEar x = Fairs.people(990, 50);
        x.good(1);
        x.item(0, 0, 20);
        x.item(0, 1, 30);
        x.buy(1, 0);
        x.buy(0, 1);
        Check.due("969", x.of(0, 1), 969);
        Check.due("60", x.of(1, 1), 60);
        x.undo();
        Check.due("999", x.of(0, 1), 999);
        Check.due("30", x.of(1, 1), 30);
        Check.due("owner", x.thing(1, 1), 1);
        Check.due("not sold", x.thing(1, 3), 0);
        Check.due("the one ahead of it is yet", x.thing(0, 3), 1);
        x.gas(0, 500);
        Check.due("purses are dropped", x.lamp(0), -2);
        Check.due("the one ahead", x.undo(), 0);
        Check.due("what was lost above 999 is no matter", x.of(0, 1), 990);
        Check.due("as it was ahead of it", x.of(1, 1), 50);
        Check.due("owner", x.thing(0, 1), 0);
        Check.due("bits", x.count(5), 0);
        Check.due("it can be sold again", x.buy(1, 0), 30);
        FairByEar y = Fairs.market(2, 1);
        y.item(0, 0, 20);
        y.rounds(3);
        y.buy(1, 0);
        y.rounds(5);
        y.undo();
        Check.due("the price is as it is", y.thing(0, 2), 17);
        Check.due("500 again", y.of(1, 1), 500);
    }

    private static void promise31None() {
        Check.promise(31, "-2: none.");
        Still.still(FairByEar::new, "-2", "undo");
        Still.still(Fairs::full, "-2", "undo");
        FairByEar x = apart();
        Check.due("one", x.undo(), 2);
        Check.due("none", x.undo(), -2);
        Check.due("none", x.undo(), -2);
        x.buy(1, 0);
        Check.due("a sale that did not come about is none", x.undo(), -2);
        Check.due("none can be undone", x.count(6), 0);
    }
}
