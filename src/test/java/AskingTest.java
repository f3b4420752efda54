/** Promises 27 to 29: PRICES that are heard late, rounds of asking, and where they lead. */
public final class AskingTest {
    public static void main(String[] args) {
        promise27Late();
        promise27AtMost9();
        promise27NotAtAll();
        promise27Wind();
        promise28WhoAsks();
        promise28ZeroAtLeast();
        promise28OfEqualOnes();
        promise28BeforeItWasTold();
        promise28Prices();
        promise28Changed();
        promise28TheRow();
        promise28Refused();
        promise29Settles();
        promise29All();
        promise29GoesRound();
        promise29NotSoFar();
        promise29NothingChanges();
        Check.done(27, 29);
    }

    /** One ITEM of 50 that nobody asks for falls each round; another one, so far away, would ask for it at 45. */
    private static FairByEar falling(int length, int wind) {
        FairByEar x = new FairByEar();
        for (int i = 0; i < length / 20; i++) {
            x.tunnel(i, i + 1, 20);
        }
        if (length % 20 > 0) {
            x.tunnel(length / 20, length / 20 + 1, length % 20);
        }
        x.wind(wind);
        x.person(0, 0, 0);
        x.person((length + 19) / 20, 99, 0);
        x.good(1);
        x.item(0, 0, 50);
        x.want(1, 0, 45);
        return x;
    }

    /** It hears of 45 so many rounds behind the fifth, and has asked then for the first time. */
    private static void late(int length, int wind, int late) {
        FairByEar x = falling(length, wind);
        String what = "FAR " + length + " by WIND " + wind;
        Check.due(what, x.rounds(5 + late), 1);
        Check.row(x, what + ": not yet", 0);
        Check.due(what, x.rounds(1), 0);
        Check.row(x, what + ": now", 2);
    }

    private static void promise27Late() {
        Check.promise(27, "a PRICE is heard by one so many rounds late as FAR from its OWNER to one goes into it "
            + "(FAR by WIND, cut;");
        late(0, 1, 0);
        late(1, 1, 1);
        late(1, 2, 0);
        late(2, 3, 0);
        late(3, 3, 1);
        late(5, 3, 1);
        late(6, 3, 2);
        late(8, 1, 8);
        late(19, 20, 0);
        late(20, 20, 1);
        late(39, 20, 1);
        late(40, 20, 2);
        FairByEar x = falling(9, 3);
        x.walk(0, 1);
        x.rounds(5);
        Check.row(x, "by where they are now: not yet", 0);
        x.rounds(1);
        Check.row(x, "by where they are now", 2);
    }

    private static void promise27AtMost9() {
        Check.promise(27, "at most 9;");
        late(8, 1, 8);
        late(9, 1, 9);
        late(10, 1, 9);
        late(20, 1, 9);
        late(180, 1, 9);
        late(180, 20, 9);
        late(179, 20, 8);
    }

    private static void promise27NotAtAll() {
        Check.promise(27, "not at all, if there is no way)");
        FairByEar x = falling(1, 1);
        x.person(9, 999, 0);
        x.want(2, 0, 99);
        x.rounds(1);
        Check.row(x, "one has no way", 0);
        x.rounds(100);
        Check.row(x, "one has no way, however long it goes on", 2);
        x.tunnel(0, 9, 20);
        x.wind(20);
        x.rounds(1);
        Check.row(x, "now it has", 6);
    }

    private static void promise27Wind() {
        Check.promise(27, "WIND (1 .. 20; at first 20):");
        FairByEar x = new FairByEar();
        Check.due("at first", x.wind(1), 20);
        FairByEar y = falling(19, 20);
        FairByEar z = new FairByEar();
        z.tunnel(0, 1, 19);
        z.person(0, 0, 0);
        z.person(1, 99, 0);
        z.good(1);
        z.item(0, 0, 50);
        z.want(1, 0, 45);
        z.rounds(6);
        y.rounds(6);
        Check.row(z, "at first as with 20", 2);
        Check.row(y, "with 20", 2);
        Check.promise(27, "it becomes v: what it was.");
        for (int v = 2; v <= 20; v++) {
            Check.due("it was", x.wind(v), v - 1);
        }
        Check.promise(27, "Refused: others.");
        Still.refusedBeyond("wind", new int[] {5}, Still.ends(1, 20));
        Still.refused(FairByEar::new, "wind", 0);
        Still.refused(FairByEar::new, "wind", 21);
    }

    private static void promise28WhoAsks() {
        Check.promise(28, "n rounds (0 .. 200) of asking: in each, each one asks for that ITEM not SOLD, of "
            + "another OWNER, that it hears of, for which WANTS less the PRICE it hears is the most");
        FairByEar x = Fairs.market(4, 3);
        x.item(0, 0, 10);
        x.item(1, 0, 20);
        x.item(2, 1, 5);
        x.want(0, 1, 99);
        x.want(1, 0, 15);
        x.want(1, 1, 26);
        x.want(1, 2, 99);
        x.want(2, 0, 9);
        x.want(2, 1, 20);
        x.want(3, 1, 26);
        x.want(3, 2, 10);
        x.rounds(1);
        Check.row(x, "the most, and not of its own", 0, 2 + 4 + 8, 0);
        FairByEar y = Fairs.market(3, 2);
        y.item(0, 0, 10);
        y.item(1, 0, 10);
        y.want(1, 0, 50);
        y.want(1, 1, 20);
        y.want(2, 0, 50);
        y.buy(2, 0);
        y.rounds(1);
        Check.row(y, "a sold one is not asked for", 0, 2);
        y.undo();
        y.rounds(1);
        Check.row(y, "not sold any more", 6, 0);
        FairByEar z = Fairs.market(2, 1);
        z.item(0, 1, 10);
        z.want(0, 0, 10);
        z.rounds(1);
        Check.row(z, "the first of people asks, too", 1);
    }

    private static void promise28ZeroAtLeast() {
        Check.promise(28, "(0 at least, and that PRICE not above its PURSE;");
        FairByEar x = Fairs.market(3, 1);
        x.item(0, 0, 10);
        x.want(1, 0, 10);
        x.want(2, 0, 9);
        x.rounds(1);
        Check.row(x, "0 at least", 2);
        FairByEar y = Fairs.people(0, 10, 9);
        y.good(1);
        y.item(0, 0, 10);
        y.want(1, 0, 99);
        y.want(2, 0, 99);
        y.rounds(1);
        Check.row(y, "not above its purse", 2);
        FairByEar z = Fairs.people(0, 9);
        z.good(1);
        z.good(1);
        z.item(0, 0, 10);
        z.item(1, 0, 9);
        z.want(1, 0, 99);
        z.want(1, 1, 9);
        z.rounds(1);
        Check.row(z, "of those not above its purse the best", 0, 2);
        FairByEar late = falling(9, 1);
        late.want(1, 0, 99);
        late.gas(0, 500);
        late.lamp(0);
        Check.due("down to 0", late.rounds(50), 1);
        Check.due("it hears of 9 .. 1 above its empty purse", late.rounds(9), 0);
        Check.row(late, "above its purse as it hears it", 0);
        late.rounds(1);
        Check.row(late, "0 is not", 2);
    }

    private static void promise28OfEqualOnes() {
        Check.promise(28, "of equal ones the first;");
        FairByEar x = Fairs.market(2, 3);
        x.item(0, 0, 10);
        x.item(1, 0, 20);
        x.item(2, 0, 20);
        x.want(1, 0, 14);
        x.want(1, 1, 25);
        x.want(1, 2, 25);
        x.rounds(1);
        Check.row(x, "5 twice", 0, 2, 0);
        FairByEar y = Fairs.market(2, 2);
        y.item(0, 0, 7);
        y.item(1, 0, 9);
        y.want(1, 0, 7);
        y.want(1, 1, 9);
        y.rounds(1);
        Check.row(y, "0 twice", 2, 0);
    }

    private static void promise28BeforeItWasTold() {
        Check.promise(28, "of rounds before it was told: its PRICE as told);");
        FairByEar x = new FairByEar();
        x.tunnel(0, 1, 20);
        x.person(0, 0, 0);
        x.person(1, 99, 0);
        x.good(1);
        x.wind(1);
        x.rounds(50);
        x.item(0, 0, 50);
        x.want(1, 0, 49);
        x.rounds(10);
        Check.row(x, "heard as told for 9 rounds", 0);
        Check.due("it fell 10 times", x.thing(0, 2), 40);
        x.rounds(1);
        Check.row(x, "then as it was 9 rounds ahead", 2);
        FairByEar y = falling(180, 1);
        y.want(1, 0, 50);
        y.rounds(1);
        Check.row(y, "heard from the first round on", 2);
    }

    private static void promise28Prices() {
        Check.promise(28, "then each PRICE of an ITEM not SOLD asked for by two or more is 1 more (99 at most), "
            + "by none 1 less (0 at least):");
        FairByEar x = Fairs.market(5, 4);
        for (int good = 0; good < 4; good++) {
            x.item(good, 0, 20);
        }
        x.want(1, 0, 30);
        x.want(2, 1, 30);
        x.want(3, 1, 30);
        x.want(4, 1, 30);
        x.rounds(1);
        Check.due("asked for by one", x.thing(0, 2), 20);
        Check.due("by three", x.thing(1, 2), 21);
        Check.due("by none", x.thing(2, 2), 19);
        x.buy(4, 3);
        x.rounds(1);
        Check.due("a sold one keeps its price", x.thing(3, 2), 19);
        Check.due("by two", x.thing(1, 2), 22);
        FairByEar y = Fairs.market(3, 1);
        y.item(0, 0, 98);
        y.want(1, 0, 99);
        y.want(2, 0, 99);
        y.rounds(1);
        Check.due("99", y.thing(0, 2), 99);
        y.rounds(5);
        Check.due("99 at most", y.thing(0, 2), 99);
        Check.row(y, "both ask yet", 6);
        FairByEar z = Fairs.market(1, 1);
        z.item(0, 0, 1);
        z.rounds(1);
        Check.due("0", z.thing(0, 2), 0);
        z.rounds(200);
        Check.due("0 at least", z.thing(0, 2), 0);
    }

    private static void promise28Changed() {
        Check.promise(28, "how many PRICES changed in the last round (0 without);");
        FairByEar x = Fairs.market(3, 3);
        x.item(0, 0, 2);
        x.item(1, 0, 5);
        x.item(2, 0, 0);
        x.want(1, 1, 5);
        x.want(1, 0, 0);
        x.want(2, 1, 0);
        Check.due("without", x.rounds(0), 0);
        Check.due("one falls, one is asked for, one is asked for at 0", x.rounds(1), 1);
        FairByEar y = Fairs.market(1, 2);
        y.item(0, 0, 1);
        y.item(1, 0, 99);
        Check.due("both", y.rounds(1), 2);
        Check.due("one is at 0", y.rounds(1), 1);
        Check.due("the last round that changes", y.rounds(97), 1);
        Check.due("none", y.rounds(1), 0);
        y.item(1, 0, 1);
        Check.due("of the last round alone", y.rounds(2), 0);
        FairByEar z = Fairs.market(3, 1);
        z.item(0, 0, 99);
        z.want(1, 0, 99);
        z.want(2, 0, 99);
        Check.due("99 does not change", z.rounds(1), 0);
        Check.due("no items", Fairs.market(3, 1).rounds(200), 0);
    }

    private static void promise28TheRow() {
        Check.promise(28, "the ROW: of each ITEM who asked for it in the last of these rounds (bits; 0 without).");
        FairByEar x = Fairs.market(3, 2);
        x.item(0, 0, 10);
        x.item(1, 0, 10);
        x.want(1, 0, 12);
        x.want(2, 0, 11);
        x.rounds(1);
        Check.row(x, "both", 6, 0);
        x.rounds(1);
        Check.row(x, "both at 11", 6, 0);
        x.rounds(2);
        Check.row(x, "of the last round alone: 12 is too much for one", 2, 0);
        x.rounds(0);
        Check.row(x, "without a round", 0, 0);
        FairByEar y = Fairs.full();
        y.rounds(0);
        Check.row(y, "twelve", 0, 0, 0, 0, 0, 0, 0, 0, 0, 0, 0, 0);
        y = new FairByEar();
        y.loudest();
        y.rounds(7);
        Check.row(y, "no items");
    }

    private static void promise28Refused() {
        Check.promise(28, "Refused: others.");
        Still.refusedBeyond("rounds", new int[] {5}, Still.ends(0, 200));
        FairByEar x = Fairs.market(1, 1);
        x.item(0, 0, 99);
        Check.due("200 rounds", x.rounds(200), 0);
        Check.due("all of them", x.thing(0, 2), 0);
    }

    private static void promise29Settles() {
        Check.promise(29, "if that was the round ahead, how many rounds ahead of it were gone through (it has "
            + "settled);");
        Check.due("nothing", new FairByEar().settles(), 0);
        FairByEar x = Fairs.people(99, 99);
        x.good(1);
        x.item(0, 0, 7);
        x.want(1, 0, 9);
        Check.due("at once", x.settles(), 0);
        x.want(1, 0, 6);
        Check.due("one down, and 9 rounds more", x.settles(), 10);
        x.want(1, 0, 5);
        Check.due("two down, and 9 rounds more", x.settles(), 11);
        x.rounds(3);
        Check.due("so many fewer", x.settles(), 8);
        x.rounds(7);
        Check.due("one more", x.settles(), 1);
        x.rounds(1);
        Check.due("settled", x.settles(), 0);
        FairByEar y = Fairs.market(1, 1);
        y.item(0, 0, 99);
        Check.due("99 down, and 9 rounds more", y.settles(), 108);
    }

    private static void promise29All() {
        Check.promise(29, "How asking goes on, at most 200 rounds, till all (PRICES now, and those of 9 rounds "
            + "back) is as it was behind some round gone through already (or now):");
        FairByEar x = Fairs.market(2, 1);
        x.item(0, 0, 9);
        x.rounds(3);
        x.buy(1, 0);
        Check.due("a sold one keeps its rounds gone by", x.settles(), 9);
        x.rounds(4);
        Check.due("so many fewer", x.settles(), 5);
        FairByEar y = Fairs.market(1, 1);
        y.item(0, 0, 1);
        Check.due("one round, and it stands 9 rounds back", y.settles(), 10);
        y.rounds(1);
        Check.due("9 more", y.settles(), 9);
        y.rounds(8);
        Check.due("the last of 9 rounds back", y.settles(), 1);
        FairByEar z = Fairs.market(1, 2);
        z.item(0, 0, 0);
        z.item(1, 0, 3);
        Check.due("each item, not the first alone", z.settles(), 12);
        FairByEar one = Fairs.market(1, 2);
        one.item(0, 0, 3);
        one.item(1, 0, 0);
        Check.due("each item, not the last alone", one.settles(), 12);
        for (int last = 0; last < 12; last++) {
            FairByEar twelve = Fairs.market(1, 1);
            for (int item = 0; item < 12; item++) {
                twelve.item(0, 0, item == last ? 20 : 5);
            }
            Check.due("twelve items, the last to settle is " + last, twelve.settles(), 29);
            Check.due("twelve items are settled one round ahead", twelve.rounds(28), 0);
            Check.due("twelve items are settled one round ahead", twelve.settles(), 1);
        }
    }

    /** Two who want an ITEM alike and hear of it d rounds late drive its PRICE round in 4d + 2 rounds. */
    private static void addLate(FairByEar x, int owner, int place) {
        int good = x.good(1);
        x.item(good, owner, 50);
        for (int i = 0; i < 2; i++) {
            x.want(x.person(place, 999, 0), good, 50);
        }
    }

    private static void promise29GoesRound() {
        Check.promise(29, "else NONE less how many rounds lie between both (it goes round).");
        FairByEar x = Fairs.people(0, 99, 99);
        x.good(1);
        x.item(0, 0, 5);
        x.want(1, 0, 5);
        x.want(2, 0, 5);
        Check.due("5, 6, 5, 6", x.settles(), -1 - 2);
        x.rounds(10);
        Check.due("from any round on", x.settles(), -3);
        for (int late = 0; late <= 12; late++) {
            FairByEar y = new FairByEar();
            y.tunnel(0, 1, Math.max(1, late));
            y.wind(1);
            y.person(0, 0, 0);
            addLate(y, 0, late == 0 ? 0 : 1);
            Check.due("late " + late, y.settles(), -1 - (4 * Math.min(9, late) + 2));
            y.wind(20);
            Check.due("not late", y.settles(), -3);
        }
    }

    /** Rounds of 10 and 26 together are 130; from 84 down the first 70 go by ahead of them, from 85 one more. */
    private static FairByEar justSoFar(int price) {
        FairByEar x = new FairByEar();
        x.wind(1);
        x.person(0, 0, 0);
        x.tunnel(0, 1, 2);
        x.tunnel(0, 2, 6);
        for (int place = 1; place <= 2; place++) {
            int good = x.good(1);
            x.item(good, 0, place == 1 ? price : 20);
            x.want(x.person(place, 999, 0), good, 20);
            x.want(x.person(place, 999, 0), good, 20);
        }
        return x;
    }

    private static void promise29NotSoFar() {
        Check.promise(29, "-999: it does not come so far.");
        Check.due("just in 200 rounds", justSoFar(84).settles(), -1 - 130);
        Check.due("it would take 201", justSoFar(85).settles(), -999);
        FairByEar x = justSoFar(85);
        x.rounds(1);
        Check.due("a round later it comes so far", x.settles(), -1 - 130);
        FairByEar y = new FairByEar();
        y.wind(1);
        y.person(0, 0, 0);
        for (int late = 7; late <= 9; late++) {
            y.tunnel(0, late, late);
            addLate(y, 0, late);
        }
        Check.due("30, 34 and 38 rounds", y.settles(), -999);
        y.rounds(200);
        Check.due("nor later", y.settles(), -999);
    }

    private static void promise29NothingChanges() {
        Check.promise(29, "Nothing changes.");
        Still.still(() -> justSoFar(84), "-131", "settles");
        Still.still(() -> justSoFar(85), "-999", "settles");
        Still.still(FairByEar::new, "0", "settles");
        Still.still(Fairs::some, String.valueOf(Fairs.some().settles()), "settles");
        Still.still(Fairs::full, String.valueOf(Fairs.full().settles()), "settles");
    }
}
