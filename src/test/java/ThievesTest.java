/** Promises 32 to 38: thieves, clinks. */
public final class ThievesTest {
    public static void main(String[] args) {
        counts();
        stays();
        thefts();
        suspects();
        gangs();
        clinks();
        hands();
        Check.done();
    }

    private static FairByEar fair(int... purses) {
        FairByEar x = new FairByEar();
        for (int purse : purses) {
            x.person(0, purse, 0);
        }
        return x;
    }

    private static void counts() {
        FairByEar x = fair();
        Check.due("place 10", x.counted(10, 0, 0), -1);
        Check.due("place -1", x.counted(-1, 0, 0), -1);
        Check.due("minute 1000", x.counted(0, 1000, 0), -1);
        Check.due("minute -1", x.counted(0, -1, 0), -1);
        Check.due("many 100", x.counted(0, 0, 100), -1);
        Check.due("many -1", x.counted(0, 0, -1), -1);
        for (int i = 1; i <= 16; i++) {
            Check.due("count", x.counted(i % 10, 999 - i, 99), i);
        }
        Check.due("count 17", x.counted(0, 0, 0), -1);
    }

    private static void stays() {
        FairByEar x = fair(1);
        Check.due("person 1", x.been(1, 0, 0, 0), -1);
        Check.due("person -1", x.been(-1, 0, 0, 0), -1);
        Check.due("place 10", x.been(0, 10, 0, 0), -1);
        Check.due("place -1", x.been(0, -1, 0, 0), -1);
        Check.due("from -1", x.been(0, 0, -1, 0), -1);
        Check.due("to 1000", x.been(0, 0, 0, 1000), -1);
        Check.due("to below from", x.been(0, 0, 5, 4), -1);
        for (int i = 1; i <= 20; i++) {
            Check.due("stay", x.been(0, 9, 0, 999), i);
        }
        Check.due("stay 21", x.been(0, 0, 0, 0), -1);
    }

    private static void thefts() {
        FairByEar x = fair();
        x.counted(3, 50, 10);
        x.counted(3, 20, 15);
        x.counted(4, 30, 0);
        x.counted(3, 40, 17);
        x.counted(3, 60, 10);
        x.counted(3, 70, 1);
        Check.due("two", x.missing(3), 2);
        Check.row(x, "two", 40, 50, 7 + 9);
        Check.due("none", x.missing(4), 0);
        Check.row(x, "none");
        x.missing(3);
        Check.due("place 10", x.missing(10), -1);
        Check.due("place -1", x.missing(-1), -1);
        Check.row(x, "as it was", 40, 50, 16);
        FairByEar y = fair();
        y.counted(0, 5, 3);
        y.counted(0, 5, 9);
        y.counted(0, 5, 4);
        y.counted(0, 1, 4);
        y.counted(1, 3, 1);
        Check.due("none left", y.counted(1, 4, 0), 6);
        Check.due("all were taken", y.missing(1), 1);
        Check.due("of equal minutes as told", y.missing(0), 2);
        Check.row(y, "of equal minutes as told", 1, 5, 1 + 5);
    }

    private static void suspects() {
        FairByEar x = fair(1, 1, 1, 1, 1);
        x.counted(2, 10, 9);
        x.counted(2, 20, 5);
        x.counted(2, 30, 5);
        x.counted(2, 40, 4);
        x.been(0, 2, 0, 10);
        x.been(1, 2, 20, 29);
        x.been(2, 2, 0, 9);
        x.been(3, 2, 21, 29);
        x.been(4, 1, 0, 99);
        Check.due("both ends, too", x.suspects(2, 0), 1 + 2);
        Check.due("none was there", x.suspects(2, 1), 0);
        Check.due("no third one", x.suspects(2, 2), -2);
        Check.due("another place", x.suspects(3, 0), -2);
        Check.due("-1", x.suspects(2, -1), -1);
        Check.due("place 10", x.suspects(10, 0), -1);
        Check.due("place -1", x.suspects(-1, 0), -1);
        x.been(4, 2, 0, 99);
        Check.due("all the time", x.suspects(2, 1), 16);
        x.been(3, 2, 40, 40);
        Check.due("one minute", x.suspects(2, 1), 24);
    }

    private static void gangs() {
        FairByEar x = fair(1, 1, 1, 1);
        Check.due("no thefts", x.gang(), 0);
        Check.row(x, "no thefts", 0);
        x.counted(0, 0, 5);
        x.counted(0, 10, 4);
        x.counted(1, 0, 5);
        x.counted(1, 10, 4);
        x.counted(2, 0, 5);
        x.counted(2, 10, 4);
        Check.due("no suspects", x.gang(), -2);
        Check.row(x, "as it was", 0);
        x.been(3, 0, 0, 5);
        x.been(3, 1, 6, 9);
        x.been(2, 1, 0, 5);
        x.been(2, 2, 6, 9);
        Check.due("two", x.gang(), 2);
        Check.row(x, "two", 12);
        x.been(0, 0, 3, 3);
        Check.due("of as few the least", x.gang(), 2);
        Check.row(x, "of as few the least", 5);
        x.been(3, 2, 10, 10);
        Check.due("one", x.gang(), 1);
        Check.row(x, "one", 8);
    }

    private static void clinks() {
        FairByEar x = fair();
        Check.due("place 10", x.clink(10, 0, 1), -1);
        Check.due("place -1", x.clink(-1, 0, 1), -1);
        Check.due("minute 1000", x.clink(0, 1000, 1), -1);
        Check.due("minute -1", x.clink(0, -1, 1), -1);
        Check.due("coin 0", x.clink(0, 0, 0), -1);
        Check.due("coin 100", x.clink(0, 0, 100), -1);
        for (int i = 1; i <= 6; i++) {
            Check.due("clink", x.clink(9, 999, 99), i);
        }
        Check.due("clink 7", x.clink(0, 0, 1), -1);
        Check.due("nobody's", x.hands(), 0);
        Check.row(x, "nobody's", 0, 0, 0, 0, 0, 0);
    }

    private static void hands() {
        FairByEar x = fair(10, 10, 9);
        Check.due("no clinks", x.hands(), 1);
        Check.row(x, "no clinks");
        x.been(0, 4, 5, 9);
        x.been(1, 4, 9, 9);
        x.been(2, 4, 0, 99);
        x.been(1, 5, 5, 5);
        x.clink(4, 5, 10);
        Check.due("the first minute of a stay", x.hands(), 1);
        Check.row(x, "another was elsewhere, a third has too little", 1);
        x.clink(4, 9, 5);
        Check.due("the first has nothing left", x.hands(), 2);
        Check.row(x, "the first has nothing left", 1, 6);
        x.clink(4, 9, 5);
        Check.due("none more in all than its purse", x.hands(), 3);
        Check.row(x, "none more in all than its purse", 1, 6, 6);
        x.clink(4, 10, 9);
        Check.due("the third must have taken this", x.hands(), 1);
        Check.row(x, "the third must have taken this", 1, 2, 2, 4);
        x.clink(4, 10, 1);
        Check.due("no way any more", x.hands(), 0);
        Check.row(x, "no way any more", 0, 0, 0, 0, 0);
        allHands();
    }

    private static void allHands() {
        FairByEar x = fair(999, 999, 999, 999, 999, 999, 999, 999);
        for (int i = 0; i < 8; i++) {
            x.been(i, 0, 0, 999);
        }
        for (int i = 0; i < 6; i++) {
            x.clink(0, i, 99);
        }
        Check.due("8 by 8 by ..", x.hands(), 262144);
        Check.row(x, "8 by 8 by ..", 255, 255, 255, 255, 255, 255);
    }
}
