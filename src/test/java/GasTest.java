/** Promises 43 to 45: gas. */
public final class GasTest {
    private static final int GAS = 0;
    private static final int BREATH = 1;
    private static final int LIMIT = 2;
    private static final int FIRE = 3;

    public static void main(String[] args) {
        promise43Gas();
        promise43AtFirst();
        promise43Refused();
        promise44Lasts();
        promise44GasGrows();
        promise44TheMost();
        promise44NotEven0();
        promise44Nobody();
        promise45Leave();
        promise45WhoWaits();
        promise45NoneAnyMore();
        promise45NothingElse();
        Check.done(43, 45);
    }

    /** A new fair with such GAS, BREATH and LIMIT. */
    private static FairByEar air(int gas, int breath, int limit) {
        FairByEar x = new FairByEar();
        x.gas(GAS, gas);
        x.gas(BREATH, breath);
        x.gas(LIMIT, limit);
        return x;
    }

    /** FAR 5, 0 and 2 from PLACE 0. */
    private static FairByEar three(int gas, int breath, int limit) {
        FairByEar x = air(gas, breath, limit);
        x.tunnel(0, 1, 2);
        x.tunnel(1, 2, 3);
        x.person(2, 0, 0);
        x.person(0, 0, 0);
        x.person(1, 0, 0);
        return x;
    }

    private static void promise43Gas() {
        Check.promise(43, "GAS 0 .. 9999 (what 0), BREATH of each of PEOPLE a minute 1 .. 99 (1), LIMIT 1 .. "
            + "9999 (2; it is death from it on), FIRE 1 .. 9999 (3) becomes v: what it was");
        int[] least = {0, 1, 1, 1};
        int[] most = {9999, 99, 9999, 9999};
        FairByEar x = new FairByEar();
        for (int what = GAS; what <= FIRE; what++) {
            x.gas(what, least[what]);
        }
        for (int what = GAS; what <= FIRE; what++) {
            Check.due("the least of " + what, x.gas(what, most[what]), least[what]);
        }
        for (int what = GAS; what <= FIRE; what++) {
            Check.due("the most of " + what, x.gas(what, least[what]), most[what]);
        }
        Check.due("death from LIMIT on", three(0, 1, 7).lasts(), -2);
        Check.due("not below it", three(0, 1, 8).lasts(), 0);
    }

    private static void promise43AtFirst() {
        Check.promise(43, "(at first 0, 1, 1000, 500).");
        int[] first = {0, 1, 1000, 500};
        for (int what = GAS; what <= FIRE; what++) {
            Check.due("at first " + what, new FairByEar().gas(what, 7), first[what]);
        }
        FairByEar x = Fairs.people(5);
        Check.due("0, 1 and 1000", x.lasts(), 999);
        x.gas(GAS, 499);
        Check.due("500", x.lamp(0), 1);
    }

    private static void promise43Refused() {
        Check.promise(43, "Refused: others.");
        int[] least = {0, 1, 1, 1};
        int[] most = {9999, 99, 9999, 9999};
        for (int what = GAS; what <= FIRE; what++) {
            Still.refusedBeyond("gas", new int[] {what, 50}, Still.ends(0, 3), Still.ends(least[what], most[what]));
            Still.refused(FairByEar::new, "gas", what, least[what] - 1);
            Still.refused(FairByEar::new, "gas", what, most[what] + 1);
        }
    }

    private static void promise44Lasts() {
        Check.promise(44, "Minutes that all can stay, so that all come out at PLACE 0 alive: from then on each "
            + "minute each goes 1 of LENGTH out (all at once; out, when its FAR is gone);");
        FairByEar x = air(0, 1, 100);
        x.tunnel(0, 1, 20);
        x.person(1, 0, 0);
        Check.due("20 minutes out, 79 to stay", x.lasts(), 79);
        x.person(1, 0, 0);
        Check.due("both at once: 40, 59 by 2", x.lasts(), 29);
        x.walk(1, 0);
        Check.due("one is out as they go: 20, 79 by 2", x.lasts(), 39);
        Check.due("3 a minute for 2, then 1 for 3 more", three(0, 1, 101).lasts(), (100 - 7) / 3);
        FairByEar y = air(0, 1, 9999);
        for (int place = 0; place < 9; place++) {
            y.tunnel(place, place + 1, 20);
        }
        for (int i = 0; i < 8; i++) {
            y.person(9, 0, 0);
        }
        Check.due("the longest way for all", y.lasts(), (9998 - 8 * 180) / 8);
        y.gas(BREATH, 99);
        Check.due("with the most BREATH", y.lasts(), -2);
    }

    private static void promise44GasGrows() {
        Check.promise(44, "GAS grows each minute by BREATH times those who are in yet as it begins (at PLACE 0 "
            + "one is out as they go):");
        Check.due("70 on the way, 30 a minute", three(0, 10, 101).lasts(), 1);
        Check.due("29 are too few", three(0, 10, 100).lasts(), 0);
        Check.due("GAS of now", three(1, 10, 102).lasts(), 1);
        Check.due("GAS of now", three(2, 10, 102).lasts(), 0);
        FairByEar x = air(0, 99, 9999);
        x.person(0, 0, 0);
        Check.due("at PLACE 0 one breathes as long as they stay", x.lasts(), 9998 / 99);
    }

    private static void promise44TheMost() {
        Check.promise(44, "the most m (0 .. 9999) with which GAS is below LIMIT at the end of each minute till "
            + "the last one is out.");
        Check.due("just below", three(0, 10, 71).lasts(), 0);
        Check.due("just one minute more", three(0, 10, 100 + 1).lasts(), 1);
        FairByEar x = air(0, 1, 9999);
        x.person(0, 0, 0);
        Check.due("the most that there can be", x.lasts(), 9998);
        x.gas(GAS, 9997);
        Check.due("one minute", x.lasts(), 1);
        x.gas(GAS, 9998);
        Check.due("not one minute, but out at once", x.lasts(), 0);
        x.gas(GAS, 9999);
        Check.due("at LIMIT, but there is no minute till all are out", x.lasts(), 0);
        x.gas(LIMIT, 1);
        Check.due("far above LIMIT, and no minute", x.lasts(), 0);
        x.person(0, 0, 0);
        Check.due("two, and no minute", x.lasts(), 0);
        Check.due("leaving asks ahead of all, too", x.leave(), 0);
        x.gas(GAS, 0);
        Check.due("a minute would reach LIMIT", x.lasts(), 0);
        x.gas(LIMIT, 2);
        Check.due("and so would it of two", x.lasts(), 0);
        x.gas(LIMIT, 3);
        Check.due("a minute stays below", x.lasts(), 1);
    }

    private static void promise44NotEven0() {
        Check.promise(44, "-2: not even 0, or one has no way;");
        Check.due("70 of 71", three(0, 10, 71).lasts(), 0);
        Check.due("70 of 70", three(0, 10, 70).lasts(), -2);
        Check.due("30 and 70 of 101", three(30, 10, 101).lasts(), 0);
        Check.due("31 and 70 of 101", three(31, 10, 101).lasts(), -2);
        FairByEar x = air(9999, 1, 1);
        x.tunnel(0, 1, 1);
        x.person(1, 0, 0);
        Check.due("one goes a minute", x.lasts(), -2);
        FairByEar y = three(0, 1, 9999);
        y.person(9, 0, 0);
        Check.due("the last has no way", y.lasts(), -2);
        FairByEar z = air(0, 1, 9999);
        z.person(9, 0, 0);
        z.person(0, 0, 0);
        Check.due("the first has no way", z.lasts(), -2);
        z.gas(GAS, 9999);
        Check.due("no way, whatever the GAS", z.lasts(), -2);
        z.tunnel(0, 9, 1);
        z.gas(GAS, 0);
        Check.due("now it has one", z.lasts(), (9998 - 1) / 2);
    }

    private static void promise44Nobody() {
        Check.promise(44, "nobody: 9999.");
        Check.due("nobody", new FairByEar().lasts(), 9999);
        Check.due("nobody, whatever the GAS", air(9999, 99, 1).lasts(), 9999);
    }

    private static void promise45Leave() {
        Check.promise(45, "They go from now on, one by one, each as the one ahead is out, those with the least "
            + "FAR from PLACE 0 first (of equal ones the first; who has no way stays):");
        FairByEar x = three(0, 1, 9999);
        Check.due("all", x.leave(), 3);
        Check.row(x, "the nearest first", 1, 2, 0);
        x.person(1, 0, 0);
        x.person(0, 0, 0);
        Check.due("all", x.leave(), 5);
        Check.row(x, "of equal ones the first", 1, 4, 2, 3, 0);
        x.person(9, 0, 0);
        Check.due("one has no way", x.leave(), 5);
        Check.row(x, "one has no way", 1, 4, 2, 3, 0);
        FairByEar y = air(0, 1, 9999);
        y.person(9, 0, 0);
        Check.due("nobody has a way", y.leave(), 0);
        Check.row(y, "nobody has a way");
        y.person(0, 0, 0);
        Check.due("the first has none", y.leave(), 1);
        Check.row(y, "the first has none", 1);
        FairByEar z = air(0, 1, 9999);
        z.loudest();
        Check.due("nobody", z.leave(), 0);
        Check.row(z, "nobody");
        FairByEar all = Fairs.people(1, 1, 1, 1, 1, 1, 1, 1);
        Check.due("eight", all.leave(), 8);
        Check.row(all, "eight", 0, 1, 2, 3, 4, 5, 6, 7);
    }

    private static void promise45WhoWaits() {
        Check.promise(45, "GAS as in lasts(), those who wait are in, too;");
        Check.due("two in for 2 minutes, one for 5: 90", three(0, 10, 91).leave(), 3);
        Check.due("90 of 90", three(0, 10, 90).leave(), 2);
        Check.due("40 of 41", three(0, 10, 41).leave(), 2);
        Check.due("40 of 40", three(0, 10, 40).leave(), 1);
        Check.due("GAS of now", three(9, 10, 99).leave(), 2);
        FairByEar x = three(0, 10, 161);
        x.person(9, 0, 0);
        Check.due("who has no way is in, too: 60 and 100", x.leave(), 3);
        x.gas(LIMIT, 160);
        Check.due("160 of 160", x.leave(), 2);
    }

    private static void promise45NoneAnyMore() {
        Check.promise(45, "as GAS is LIMIT or more (ahead of all, too), none come out any more: how many come "
            + "out; the ROW: they, in order.");
        FairByEar x = three(39, 10, 40);
        Check.due("just below: the one at PLACE 0", x.leave(), 1);
        Check.row(x, "just below: the one at PLACE 0", 1);
        x.gas(GAS, 40);
        Check.due("ahead of all", x.leave(), 0);
        Check.row(x, "ahead of all");
        x.gas(GAS, 41);
        Check.due("above", x.leave(), 0);
        x.gas(GAS, 0);
        x.gas(LIMIT, 90);
        Check.due("as the last one goes", x.leave(), 2);
        Check.row(x, "as the last one goes", 1, 2);
        FairByEar y = air(1, 1, 1);
        y.person(0, 0, 0);
        Check.due("none, though all are at PLACE 0", y.leave(), 0);
        y.gas(GAS, 0);
        Check.due("below LIMIT", y.leave(), 1);
        FairByEar z = air(0, 99, 9999);
        for (int place = 0; place < 9; place++) {
            z.tunnel(place, place + 1, 20);
        }
        for (int i = 0; i < 8; i++) {
            z.person(9, 0, 0);
        }
        Check.due("far above LIMIT at once", z.leave(), 0);
    }

    private static void promise45NothingElse() {
        Check.promise(45, "how many come out; the ROW: they, in order.");
        FairByEar x = three(5, 10, 9999);
        x.leave();
        x.lasts();
        Check.due("GAS is as it was", x.gas(GAS, 5), 5);
        Check.due("nobody went", x.of(0, 0), 2);
        Check.due("they leave again", x.leave(), 3);
    }
}
