/** Promises 24 to 31: asking, selling. */
public final class TradeTest {
    public static void main(String[] args) {
        wants();
        items();
        wind();
        whoAsks();
        pricesAtTheirEnds();
        heardLate();
        toldBefore();
        settling();
        goingRound();
        goingRoundLate();
        notSoFar();
        justSoFar();
        buying();
        undoing();
        Check.done();
    }

    private static FairByEar fair(int people, int goods) {
        FairByEar x = new FairByEar();
        for (int i = 0; i < people; i++) {
            x.person(0, 500, 0);
        }
        for (int i = 0; i < goods; i++) {
            x.good(1);
        }
        return x;
    }

    private static void wants() {
        FairByEar x = fair(2, 2);
        Check.due("at first 0", x.want(1, 1, 99), 0);
        Check.due("it was 99", x.want(1, 1, 0), 99);
        Check.due("100", x.want(1, 1, 100), -1);
        Check.due("-1", x.want(1, 1, -1), -1);
        Check.due("person 2", x.want(2, 1, 1), -1);
        Check.due("person -1", x.want(-1, 1, 1), -1);
        Check.due("good 2", x.want(1, 2, 1), -1);
        Check.due("good -1", x.want(1, -1, 1), -1);
        Check.due("it stayed", x.want(1, 1, 5), 0);
        Check.due("each its own", x.want(0, 1, 5), 0);
    }

    private static void items() {
        FairByEar x = fair(2, 2);
        Check.due("good 2", x.item(2, 0, 5), -1);
        Check.due("good -1", x.item(-1, 0, 5), -1);
        Check.due("owner 2", x.item(0, 2, 5), -1);
        Check.due("owner -1", x.item(0, -1, 5), -1);
        Check.due("price 100", x.item(0, 0, 100), -1);
        Check.due("price -1", x.item(0, 0, -1), -1);
        Check.due("none", x.count(4), 0);
        for (int i = 0; i < 12; i++) {
            Check.due("item", x.item(i % 2, 1 - i % 2, 99 - i), i);
        }
        Check.due("item 12", x.item(0, 0, 5), -1);
        Check.due("items", x.count(4), 12);
        for (int i = 0; i < 12; i++) {
            Check.due("good", x.thing(i, 0), i % 2);
            Check.due("owner", x.thing(i, 1), 1 - i % 2);
            Check.due("price", x.thing(i, 2), 99 - i);
            Check.due("sold", x.thing(i, 3), 0);
        }
        Check.none("another what", () -> x.thing(0, 4));
        Check.none("what -1", () -> x.thing(0, -1));
        Check.none("item 12", () -> x.thing(12, 0));
        Check.none("item -1", () -> x.thing(-1, 0));
    }

    private static void wind() {
        FairByEar x = new FairByEar();
        Check.due("0", x.wind(0), -1);
        Check.due("21", x.wind(21), -1);
        Check.due("at first 20", x.wind(1), 20);
        Check.due("it was 1", x.wind(20), 1);
    }

    private static void whoAsks() {
        FairByEar x = fair(4, 3);
        x.item(0, 0, 10);
        x.item(1, 0, 20);
        x.item(2, 1, 5);
        x.item(2, 0, 5);
        x.want(1, 0, 15);
        x.want(1, 1, 25);
        x.want(1, 2, 9);
        x.want(2, 0, 9);
        x.want(2, 1, 20);
        x.want(3, 1, 26);
        Check.due("a round", x.rounds(1), 3);
        Check.row(x, "of equal ones the first; 0 at least; no own one", 2, 12, 0, 0);
        Check.due("as it was", x.thing(0, 2), 10);
        Check.due("asked by two", x.thing(1, 2), 21);
        Check.due("by none", x.thing(2, 2), 4);
        Check.due("0", x.rounds(0), 0);
        Check.row(x, "without a round", 0, 0, 0, 0);
        Check.due("201", x.rounds(201), -1);
        Check.due("-1", x.rounds(-1), -1);
        Check.row(x, "as it was", 0, 0, 0, 0);
        Check.due("and nothing changed", x.thing(1, 2), 21);
        thePurseBounds();
        theFirstOfPeopleAsks();
    }

    private static void theFirstOfPeopleAsks() {
        FairByEar x = fair(2, 1);
        x.item(0, 1, 10);
        x.want(0, 0, 10);
        Check.due("asked for by one", x.rounds(1), 0);
        Check.row(x, "asked for by one", 1);
    }

    private static void thePurseBounds() {
        FairByEar x = new FairByEar();
        x.person(0, 0, 0);
        x.person(0, 10, 0);
        x.person(0, 9, 0);
        x.good(1);
        x.item(0, 0, 10);
        x.want(1, 0, 99);
        x.want(2, 0, 99);
        x.rounds(1);
        Check.row(x, "not above its purse", 2);
    }

    private static void pricesAtTheirEnds() {
        FairByEar x = fair(3, 1);
        x.item(0, 0, 98);
        x.want(1, 0, 99);
        x.want(2, 0, 99);
        Check.due("to 99", x.rounds(1), 1);
        Check.due("at most", x.rounds(1), 0);
        Check.row(x, "both ask yet", 6);
        Check.due("99", x.thing(0, 2), 99);
        x.want(1, 0, 0);
        x.want(2, 0, 0);
        Check.due("down", x.rounds(98), 1);
        Check.due("1", x.thing(0, 2), 1);
        Check.due("to 0, at which all ask", x.rounds(1), 1);
        Check.row(x, "none did", 0);
        Check.due("both ask for 0", x.rounds(1), 1);
        Check.row(x, "both", 6);
        FairByEar y = fair(1, 1);
        y.item(0, 0, 1);
        Check.due("down", y.rounds(1), 1);
        Check.due("0 at least", y.rounds(200), 0);
        Check.due("0", y.thing(0, 2), 0);
    }

    private static void heardLate() {
        FairByEar x = new FairByEar();
        x.tunnel(0, 1, 9);
        x.person(0, 0, 0);
        x.person(1, 99, 0);
        x.person(5, 99, 0);
        x.good(1);
        x.item(0, 0, 10);
        x.want(1, 0, 8);
        x.want(2, 0, 99);
        x.wind(3);
        x.rounds(1);
        Check.row(x, "10, heard as 10; one has no way", 0);
        x.rounds(4);
        Check.row(x, "6, heard as 9", 0);
        Check.due("5", x.thing(0, 2), 5);
        x.rounds(1);
        Check.row(x, "5, heard as 8", 2);
        x.wind(4);
        x.walk(0, 1);
        x.want(1, 0, 4);
        x.rounds(1);
        Check.row(x, "where they are now: 5, heard as 5", 0);
        x.rounds(1);
        Check.row(x, "4", 2);
    }

    private static void toldBefore() {
        FairByEar x = new FairByEar();
        x.tunnel(0, 1, 20);
        x.person(0, 0, 0);
        x.person(1, 99, 0);
        x.good(1);
        x.wind(1);
        x.rounds(50);
        x.item(0, 0, 50);
        x.want(1, 0, 49);
        x.rounds(10);
        Check.row(x, "heard as told for 9 rounds at most", 0);
        Check.due("it fell 10 times", x.thing(0, 2), 40);
        x.rounds(1);
        Check.row(x, "then as it was 9 rounds ahead", 2);
    }

    private static void settling() {
        FairByEar x = new FairByEar();
        Check.due("nothing", x.settles(), 0);
        x.person(0, 99, 0);
        x.person(0, 99, 0);
        x.good(1);
        x.item(0, 0, 7);
        x.want(1, 0, 9);
        Check.due("at once", x.settles(), 0);
        x.want(1, 0, 5);
        Check.due("two down, and 9 rounds more", x.settles(), 11);
        Check.due("nothing changed", x.thing(0, 2), 7);
        x.rounds(3);
        Check.due("so many fewer", x.settles(), 8);
        soldOnesSettle();
    }

    private static void soldOnesSettle() {
        FairByEar x = fair(2, 1);
        x.item(0, 0, 9);
        x.rounds(3);
        x.buy(1, 0);
        Check.due("a sold one keeps its rounds gone by", x.settles(), 9);
        x.rounds(4);
        Check.due("so many fewer", x.settles(), 5);
    }

    private static void goingRound() {
        FairByEar x = new FairByEar();
        x.person(0, 0, 0);
        x.person(0, 99, 0);
        x.person(0, 99, 0);
        x.good(1);
        x.item(0, 0, 5);
        x.want(1, 0, 5);
        x.want(2, 0, 5);
        Check.due("5, 6, 5, 6", x.settles(), -1 - 2);
        x.rounds(10);
        Check.due("from any round on", x.settles(), -3);
        Check.due("5 yet", x.thing(0, 2), 5);
    }

    /** Two who want an ITEM alike and hear of it d rounds late drive its PRICE round in 4d + 2 rounds. */
    private static void addLate(FairByEar x, int owner, int place) {
        int good = x.good(1);
        x.item(good, owner, 50);
        for (int i = 0; i < 2; i++) {
            int person = x.person(place, 999, 0);
            x.want(person, good, 50);
        }
    }

    private static void goingRoundLate() {
        for (int late = 0; late <= 12; late++) {
            FairByEar x = new FairByEar();
            x.tunnel(0, 1, Math.max(1, late));
            x.wind(1);
            x.person(0, 0, 0);
            addLate(x, 0, late == 0 ? 0 : 1);
            Check.due("late " + late, x.settles(), -1 - (4 * Math.min(9, late) + 2));
            x.wind(20);
            Check.due("not late", x.settles(), -3);
        }
    }

    private static void notSoFar() {
        FairByEar x = new FairByEar();
        x.wind(1);
        x.person(0, 0, 0);
        for (int late = 7; late <= 9; late++) {
            x.tunnel(0, late, late);
            addLate(x, 0, late);
        }
        Check.due("30, 34 and 38 rounds", x.settles(), -999);
        x.rounds(200);
        Check.due("nor later", x.settles(), -999);
        FairByEar y = fair(1, 1);
        y.item(0, 0, 99);
        Check.due("99 down, and 9 rounds more", y.settles(), 108);
    }

    /** Rounds of 10 and 26 together are 130; from 84 down the first 70 go by ahead of them, from 85 one more. */
    private static void justSoFar() {
        for (int price = 84; price <= 85; price++) {
            FairByEar x = new FairByEar();
            x.wind(1);
            x.person(0, 0, 0);
            x.tunnel(0, 1, 2);
            x.tunnel(0, 2, 6);
            for (int place = 1; place <= 2; place++) {
                int good = x.good(1);
                x.item(good, 0, place == 1 ? price : 20);
                x.want(x.person(place, 999, 0), good, 20);
                x.want(x.person(place, 999, 0), good, 20);
            }
            Check.due("in 200 rounds from " + price, x.settles(), price == 84 ? -1 - 130 : -999);
        }
    }

    private static void buying() {
        FairByEar x = new FairByEar();
        x.tunnel(0, 1, 20);
        x.person(0, 990, 0);
        x.person(1, 50, 0);
        x.person(2, 50, 0);
        x.person(1, 19, 0);
        x.good(1);
        x.item(0, 0, 20);
        x.item(0, 0, 50);
        Check.due("person 4", x.buy(4, 0), -1);
        Check.due("person -1", x.buy(-1, 0), -1);
        Check.due("item 2", x.buy(1, 2), -1);
        Check.due("item -1", x.buy(1, -1), -1);
        Check.due("its own", x.buy(0, 0), -3);
        Check.due("above its purse", x.buy(3, 0), -3);
        Check.due("no way", x.buy(2, 0), -4);
        Check.due("none sold", x.count(5), 0);
        Check.due("purse left", x.buy(1, 0), 30);
        Check.due("what is above 999 is lost", x.of(0, 1), 999);
        Check.due("its own", x.thing(0, 1), 1);
        Check.due("sold", x.thing(0, 3), 1);
        Check.due("bits", x.count(5), 1);
        Check.due("sold, first of all", x.buy(1, 0), -2);
        Check.due("sold, though there is no way", x.buy(2, 0), -2);
        x.walk(1, 0);
        Check.due("all of a purse is not enough", x.buy(1, 1), -3);
        x.rounds(1);
        Check.due("a sold one keeps its price", x.thing(0, 2), 20);
        Check.due("above its purse, ahead of no way", x.walk(1, 1), 20);
        x.rounds(19);
        Check.due("30 now", x.thing(1, 2), 30);
        Check.due("all of a purse", x.buy(1, 1), 0);
        Check.due("bits", x.count(5), 3);
    }

    private static void undoing() {
        FairByEar x = new FairByEar();
        x.person(0, 990, 0);
        x.person(0, 50, 0);
        x.good(1);
        x.item(0, 0, 20);
        x.item(0, 1, 30);
        Check.due("none", x.undo(), -2);
        x.buy(1, 0);
        x.buy(0, 1);
        Check.due("two", x.count(6), 2);
        Check.due("969", x.of(0, 1), 969);
        Check.due("60", x.of(1, 1), 60);
        Check.due("the latest", x.undo(), 1);
        Check.due("999", x.of(0, 1), 999);
        Check.due("30", x.of(1, 1), 30);
        Check.due("owner", x.thing(1, 1), 1);
        Check.due("not sold", x.thing(1, 3), 0);
        Check.due("one", x.count(6), 1);
        x.gas(0, 500);
        Check.due("purses are dropped", x.lamp(0), -2);
        Check.due("the one ahead", x.undo(), 0);
        Check.due("as it was ahead of it", x.of(0, 1), 990);
        Check.due("as it was ahead of it", x.of(1, 1), 50);
        Check.due("owner", x.thing(0, 1), 0);
        Check.due("bits", x.count(5), 0);
        Check.due("none", x.undo(), -2);
        Check.due("it can be sold again", x.buy(1, 0), 30);
    }
}
