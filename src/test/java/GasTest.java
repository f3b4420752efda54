/** Promises 43 to 45: gas. */
public final class GasTest {
    public static void main(String[] args) {
        gas();
        lasts();
        leave();
        Check.done();
    }

    private static void gas() {
        FairByEar x = new FairByEar();
        int[] first = {0, 1, 1000, 500};
        int[] least = {0, 1, 1, 1};
        int[] most = {9999, 99, 9999, 9999};
        for (int what = 0; what < 4; what++) {
            Check.due("below", x.gas(what, least[what] - 1), -1);
            Check.due("above", x.gas(what, most[what] + 1), -1);
            Check.due("at first", x.gas(what, most[what]), first[what]);
            Check.due("the most", x.gas(what, least[what]), most[what]);
            Check.due("the least", x.gas(what, least[what]), least[what]);
        }
        Check.due("what 4", x.gas(4, 5), -1);
        Check.due("what -1", x.gas(-1, 5), -1);
    }

    private static FairByEar three() {
        FairByEar x = new FairByEar();
        x.tunnel(0, 1, 2);
        x.tunnel(1, 2, 3);
        x.person(2, 0, 0);
        x.person(0, 0, 0);
        x.person(1, 0, 0);
        return x;
    }

    private static void lasts() {
        FairByEar x = new FairByEar();
        Check.due("nobody", x.lasts(), 9999);
        x.gas(0, 9999);
        Check.due("nobody, whatever the gas", x.lasts(), 9999);
        x.gas(0, 0);
        x.person(0, 0, 0);
        Check.due("at place 0", x.lasts(), 999);
        x.gas(2, 9999);
        Check.due("one alone", x.lasts(), 9998);
        x.gas(0, 9998);
        Check.due("not one minute, but out at once", x.lasts(), 0);
        x.gas(0, 9999);
        Check.due("at LIMIT, but there is no minute till all are out", x.lasts(), 0);
        x.gas(2, 1);
        Check.due("far above LIMIT, and no minute", x.lasts(), 0);
        x.person(0, 0, 0);
        Check.due("two, and no minute", x.lasts(), 0);
        x.tunnel(0, 1, 1);
        x.person(1, 0, 0);
        Check.due("one of them goes a minute", x.lasts(), -2);
        Check.due("leaving asks ahead of all, too", x.leave(), 0);
        x = new FairByEar();
        x.gas(2, 1);
        x.person(0, 0, 0);
        Check.due("a minute would reach LIMIT", x.lasts(), 0);
        x.gas(2, 2);
        Check.due("a minute stays below", x.lasts(), 1);
        x.person(1, 0, 0);
        Check.due("no way", x.lasts(), -2);
        x.gas(0, 9999);
        Check.due("no way, whatever the gas", x.lasts(), -2);
        x = three();
        x.gas(1, 10);
        x.gas(2, 101);
        Check.due("70 on the way, 30 a minute", x.lasts(), 1);
        x.gas(2, 100);
        Check.due("29 are too few", x.lasts(), 0);
        x.gas(2, 71);
        Check.due("just below", x.lasts(), 0);
        x.gas(2, 70);
        Check.due("not even 0", x.lasts(), -2);
        x.gas(2, 100);
        x.gas(0, 29);
        Check.due("gas of now", x.lasts(), 0);
        x.gas(0, 30);
        Check.due("gas of now", x.lasts(), -2);
        Check.due("nothing changed", x.gas(0, 0), 30);
        Check.due("nobody went", x.of(0, 0), 2);
    }

    private static void leave() {
        FairByEar x = new FairByEar();
        Check.due("nobody", x.leave(), 0);
        Check.row(x, "nobody");
        x = three();
        Check.due("all", x.leave(), 3);
        Check.row(x, "the nearest first", 1, 2, 0);
        x.gas(1, 10);
        x.gas(2, 91);
        Check.due("0, 40, 50", x.leave(), 3);
        x.gas(2, 90);
        Check.due("90 is too much", x.leave(), 2);
        Check.row(x, "90 is too much", 1, 2);
        x.gas(2, 41);
        Check.due("40", x.leave(), 2);
        x.gas(2, 40);
        Check.due("40 is too much", x.leave(), 1);
        Check.row(x, "at place 0 one is out as they go", 1);
        x.gas(0, 39);
        Check.due("39", x.leave(), 1);
        x.gas(0, 40);
        Check.due("ahead of all, too", x.leave(), 0);
        Check.row(x, "ahead of all, too");
        Check.due("nothing changed", x.gas(0, 0), 40);
        Check.due("nobody went", x.of(0, 0), 2);
        x.gas(2, 200);
        x.person(9, 0, 0);
        Check.due("who has no way breathes, too: 60, 100", x.leave(), 3);
        Check.row(x, "who has no way stays", 1, 2, 0);
        x.gas(2, 160);
        Check.due("160 is too much", x.leave(), 2);
        x.gas(2, 9999);
        x.person(1, 0, 0);
        Check.due("of equal ones the first", x.leave(), 4);
        Check.row(x, "of equal ones the first", 1, 2, 4, 0);
        x.gas(1, 1);
        Check.due("who has no way stays, however little they breathe", x.leave(), 4);
    }
}
