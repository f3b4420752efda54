/** Promises 32 to 38: thieves, clinks. */
public final class ThievesTest {
    public static void main(String[] args) {
        promise32Counted();
        promise33Been();
        promise33NotBelowIt();
        promise34Missing();
        promise34OfEqualMinutes();
        promise34TheRow();
        promise34NoneSuch();
        promise35Suspects();
        promise35BothToo();
        promise35NoSuchTheft();
        promise36Gang();
        promise36OfAsFew();
        promise36SomeHasNone();
        promise37Clink();
        promise38Hands();
        promise38ThereThen();
        promise38NoneMoreThanItsPurse();
        promise38TheRow();
        Check.done(32, 38);
    }

    private static void promise32Counted() {
        Check.promise(32, "At a stall of a PLACE there were so many (0 .. 99) in a minute (0 .. 999): how many "
            + "counts.");
        FairByEar x = new FairByEar();
        for (int i = 1; i <= 16; i++) {
            Check.due("count", x.counted(i % 2 * 9, i <= 8 ? 0 : 999, i <= 8 ? 99 : 0), i);
        }
        Check.due("99 in minute 0, none in minute 999", x.missing(0), 1);
        Check.row(x, "99 in minute 0, none in minute 999", 0, 999, 99);
        Check.due("at the other place, too", x.missing(9), 1);
        Check.promise(32, "Refused: others, 16.");
        Still.refusedBeyond("counted", new int[] {2, 50, 5}, Still.ends(0, 9), Still.ends(0, 999), Still.ends(0, 99));
        Still.refused(Fairs::full, "counted", 0, 0, 0);
        Still.refused(Fairs::full, "counted", 9, 999, 99);
        Check.due("the 17th", x.counted(5, 5, 5), -1);
    }

    private static void promise33Been() {
        Check.promise(33, "One was at a PLACE from a minute to another one (0 .. 999, not below it): how many stays.");
        FairByEar x = Fairs.people(1, 1, 1, 1, 1, 1, 1, 1);
        for (int i = 1; i <= 20; i++) {
            Check.due("stay", x.been(i % 8, i % 10, 0, 999), i);
        }
        Check.promise(33, "Refused: others, 20.");
        Still.refusedBeyond("been", new int[] {1, 5, 20, 30}, Still.ends(0, 3), Still.ends(0, 9), Still.ends(0, 30),
            Still.ends(20, 999));
        Still.refused(Fairs::full, "been", 0, 0, 0, 0);
        Still.refused(Fairs::full, "been", 7, 9, 0, 999);
        Still.refused(FairByEar::new, "been", 0, 0, 0, 0);
        Check.due("the 21st", x.been(0, 0, 0, 0), -1);
    }

    private static void promise33NotBelowIt() {
        Check.promise(33, "(0 .. 999, not below it)");
        FairByEar x = Fairs.people(1);
        Check.due("0 to 0", x.been(0, 0, 0, 0), 1);
        Check.due("999 to 999", x.been(0, 0, 999, 999), 2);
        Check.due("0 to 999", x.been(0, 0, 0, 999), 3);
        Check.due("5 to 5", x.been(0, 0, 5, 5), 4);
        Check.due("5 to 4", x.been(0, 0, 5, 4), -1);
        Check.due("999 to 0", x.been(0, 0, 999, 0), -1);
        Check.due("999 to 1000", x.been(0, 0, 999, 1000), -1);
        Check.due("1000 to 1000", x.been(0, 0, 1000, 1000), -1);
        Check.due("-1 to 0", x.been(0, 0, -1, 0), -1);
        Check.due("-1 to -1", x.been(0, 0, -1, -1), -1);
        Check.due("the next", x.been(0, 0, 0, 0), 5);
    }

    private static void promise34Missing() {
        Check.promise(34, "Thefts at a PLACE: of its counts by minutes");
        FairByEar x = new FairByEar();
        Check.due("no counts", x.missing(3), 0);
        x.counted(3, 50, 10);
        Check.due("one count", x.missing(3), 0);
        x.counted(3, 20, 15);
        Check.due("told behind, but earlier", x.missing(3), 1);
        Check.row(x, "told behind, but earlier", 20, 50, 5);
        x.counted(4, 30, 0);
        Check.due("a count of another place is no matter", x.missing(3), 1);
        Check.due("nor at that one", x.missing(4), 0);
        x.counted(3, 40, 17);
        Check.due("told last, in between", x.missing(3), 1);
        Check.row(x, "told last, in between", 40, 50, 7);
        Check.promise(34, "each with fewer than the one ahead: how many;");
        x.counted(3, 60, 10);
        Check.due("as many as the one ahead", x.missing(3), 1);
        x.counted(3, 70, 9);
        Check.due("one fewer", x.missing(3), 2);
        x.counted(3, 80, 10);
        Check.due("one more", x.missing(3), 2);
        FairByEar y = new FairByEar();
        for (int i = 0; i < 16; i++) {
            y.counted(9, 15 - i, i);
        }
        Check.due("15 of 16", y.missing(9), 15);
        Check.row(y, "15 of 16", 0, 1, 15);
    }

    private static void promise34OfEqualMinutes() {
        Check.promise(34, "(of equal minutes as told)");
        FairByEar x = new FairByEar();
        x.counted(0, 5, 3);
        x.counted(0, 5, 9);
        x.counted(0, 5, 4);
        Check.due("3, 9, 4", x.missing(0), 1);
        Check.row(x, "3, 9, 4", 5, 5, 5);
        x.counted(0, 1, 4);
        Check.due("4, 3, 9, 4", x.missing(0), 2);
        Check.row(x, "4, 3, 9, 4", 1, 5, 1 + 5);
        x.counted(0, 5, 0);
        Check.due("4, 3, 9, 4, 0", x.missing(0), 3);
        Check.row(x, "4, 3, 9, 4, 0", 1, 5, 1 + 5 + 4);
    }

    private static void promise34TheRow() {
        Check.promise(34, "the ROW: the minute ahead and its own of the first one, and how many were taken in "
            + "all (none without).");
        FairByEar x = new FairByEar();
        x.loudest();
        x.missing(3);
        Check.row(x, "without counts none");
        x.counted(3, 0, 99);
        x.counted(3, 1, 99);
        x.loudest();
        x.missing(3);
        Check.row(x, "without thefts none");
        x.counted(3, 500, 1);
        x.counted(3, 600, 51);
        x.counted(3, 999, 0);
        Check.due("two", x.missing(3), 2);
        Check.row(x, "of the first one, and in all", 1, 500, 98 + 51);
    }

    private static void promise34NoneSuch() {
        Check.promise(34, "NONE: none such.");
        Still.refusedBeyond("missing", new int[] {5}, Still.ends(0, 9));
    }

    private static FairByEar robbed() {
        FairByEar x = Fairs.people(1, 1, 1, 1, 1, 1, 1, 1);
        x.counted(2, 10, 9);
        x.counted(2, 20, 5);
        x.counted(2, 30, 5);
        x.counted(2, 40, 4);
        return x;
    }

    private static void promise35Suspects() {
        Check.promise(35, "Who was at a PLACE (bits) in some minute of the span of its theft number k");
        FairByEar x = robbed();
        Check.due("none was there", x.suspects(2, 0), 0);
        x.been(1, 1, 0, 99);
        Check.due("one was elsewhere", x.suspects(2, 0), 0);
        x.been(7, 2, 12, 12);
        Check.due("one minute", x.suspects(2, 0), 128);
        x.been(0, 2, 0, 999);
        Check.due("all the time", x.suspects(2, 0), 129);
        x.been(0, 2, 12, 13);
        Check.due("twice there", x.suspects(2, 0), 129);
        Check.due("of the next theft, not of the span between", x.suspects(2, 1), 1);
    }

    private static void promise35BothToo() {
        Check.promise(35, "(0 ..; from the count ahead to its own, both too).");
        FairByEar x = robbed();
        x.been(0, 2, 0, 9);
        x.been(1, 2, 0, 10);
        x.been(2, 2, 20, 20);
        x.been(3, 2, 21, 29);
        x.been(4, 2, 30, 30);
        x.been(5, 2, 40, 999);
        x.been(6, 2, 41, 999);
        Check.due("from 10 to 20", x.suspects(2, 0), 2 + 4);
        Check.due("from 30 to 40", x.suspects(2, 1), 16 + 32);
    }

    private static void promise35NoSuchTheft() {
        Check.promise(35, "-2: no such theft; NONE: others.");
        FairByEar x = robbed();
        Check.due("the second", x.suspects(2, 1), 0);
        Check.due("a third", x.suspects(2, 2), -2);
        Check.due("far beyond", x.suspects(2, Integer.MAX_VALUE), -2);
        Check.due("another place", x.suspects(3, 0), -2);
        Check.due("no counts", new FairByEar().suspects(9, 0), -2);
        Still.still(Fairs::some, "-2", "suspects", 0, 1);
        for (int k : new int[] {-1, -2, -32, Integer.MIN_VALUE}) {
            Still.refused(Fairs::some, "suspects", 0, k);
            Still.refused(Fairs::some, "suspects", 5, k);
        }
        Still.refusedBeyond("suspects", new int[] {0, 0}, Still.ends(0, 9), Still.ends(0, Integer.MAX_VALUE));
    }

    private static void promise36Gang() {
        Check.promise(36, "The fewest of PEOPLE of whom each theft at all PLACES has one as a suspect: how many; "
            + "the ROW: they (bits):");
        FairByEar x = Fairs.people(1, 1, 1, 1);
        Check.due("no thefts", x.gang(), 0);
        Check.row(x, "no thefts", 0);
        Check.due("nobody", new FairByEar().gang(), 0);
        for (int place = 0; place < 3; place++) {
            x.counted(place, 0, 5);
            x.counted(place, 10, 4);
        }
        x.been(3, 0, 0, 5);
        x.been(3, 1, 6, 9);
        x.been(2, 1, 0, 5);
        x.been(2, 2, 6, 9);
        Check.due("two", x.gang(), 2);
        Check.row(x, "two", 12);
        x.been(3, 2, 10, 10);
        Check.due("one", x.gang(), 1);
        Check.row(x, "one", 8);
        FairByEar y = Fairs.people(1, 1, 1, 1, 1, 1, 1, 1);
        for (int i = 0; i < 8; i++) {
            y.counted(i, 0, 1);
            y.counted(i, 1, 0);
            y.been(i, i, 0, 0);
        }
        Check.due("all eight", y.gang(), 8);
        Check.row(y, "all eight", 255);
        FairByEar z = Fairs.people(1, 1, 1);
        for (int place = 0; place < 2; place++) {
            z.counted(place, 0, 1);
            z.counted(place, 1, 0);
            z.been(place, place, 0, 0);
        }
        Check.due("two", z.gang(), 2);
        Check.row(z, "two", 3);
        z.been(2, 0, 0, 0);
        z.been(2, 1, 1, 1);
        Check.due("one, though its bits are more", z.gang(), 1);
        Check.row(z, "one, though its bits are more", 4);
    }

    private static void promise36OfAsFew() {
        Check.promise(36, "of as few the least.");
        FairByEar x = Fairs.people(1, 1, 1);
        x.counted(0, 0, 5);
        x.counted(0, 10, 4);
        x.been(2, 0, 0, 5);
        x.been(1, 0, 0, 5);
        x.gang();
        Check.row(x, "of two the first", 2);
        x.been(0, 0, 0, 5);
        x.gang();
        Check.row(x, "of three the first", 1);
        x.counted(1, 0, 5);
        x.counted(1, 10, 4);
        x.been(1, 1, 0, 5);
        x.been(2, 1, 0, 5);
        x.gang();
        Check.row(x, "one of both", 2);
    }

    private static void promise36SomeHasNone() {
        Check.promise(36, "-2: some theft has none.");
        FairByEar x = robbed();
        Check.due("both", x.gang(), -2);
        x.been(0, 2, 10, 29);
        Check.due("the last of them", x.gang(), -2);
        x.been(0, 2, 30, 30);
        Check.due("none has none", x.gang(), 1);
        x.counted(9, 0, 1);
        x.counted(9, 1, 0);
        Check.due("at another place", x.gang(), -2);
        Still.still(ThievesTest::robbed, "-2", "gang");
        FairByEar y = new FairByEar();
        y.counted(9, 0, 1);
        y.counted(9, 1, 0);
        Check.due("nobody", y.gang(), -2);
    }

    private static void promise37Clink() {
        Check.promise(37, "A coin of so much (1 .. 99) rang at a PLACE in a minute: how many clinks.");
        FairByEar x = Fairs.people(99);
        x.been(0, 9, 999, 999);
        Check.due("clink", x.clink(9, 999, 99), 1);
        Check.due("99 of 99 in minute 999 at place 9", x.hands(), 1);
        for (int i = 2; i <= 6; i++) {
            Check.due("clink", x.clink(0, 0, 1), i);
        }
        Check.promise(37, "Refused: others, 6.");
        Check.due("the 7th", x.clink(0, 0, 1), -1);
        Still.refusedBeyond("clink", new int[] {2, 50, 5}, Still.ends(0, 9), Still.ends(0, 999), Still.ends(1, 99));
        Still.refused(Fairs::full, "clink", 0, 0, 1);
        Still.refused(Fairs::full, "clink", 9, 999, 99);
    }

    private static void promise38Hands() {
        Check.promise(38, "Whose hand it was: ways to give each clink");
        FairByEar x = Fairs.people(999, 999);
        Check.due("no clinks", x.hands(), 1);
        Check.row(x, "no clinks");
        Check.due("nobody, no clinks", new FairByEar().hands(), 1);
        x.been(0, 0, 0, 9);
        x.been(1, 0, 0, 9);
        for (int i = 1; i <= 6; i++) {
            x.clink(0, i, 99);
            Check.due("each clink is of one or of the other", x.hands(), 1 << i);
        }
        FairByEar y = Fairs.people(999, 999, 999, 999, 999, 999, 999, 999);
        for (int i = 0; i < 8; i++) {
            y.been(i, 0, 0, 999);
        }
        for (int i = 0; i < 6; i++) {
            y.clink(0, i, 99);
        }
        Check.due("8 by 8 by ..", y.hands(), 262144);
        Check.row(y, "8 by 8 by ..", 255, 255, 255, 255, 255, 255);
        FairByEar nobody = new FairByEar();
        nobody.clink(0, 0, 1);
        Check.due("nobody's", nobody.hands(), 0);
        Check.row(nobody, "nobody's", 0);
    }

    private static void promise38ThereThen() {
        Check.promise(38, "to one who was there then,");
        FairByEar x = Fairs.people(99, 99, 99, 99, 99);
        x.clink(4, 10, 1);
        x.been(0, 4, 10, 12);
        x.been(1, 4, 8, 10);
        x.been(2, 4, 0, 9);
        x.been(3, 4, 11, 99);
        x.been(4, 5, 10, 10);
        Check.due("both minutes of a stay, too", x.hands(), 2);
        Check.row(x, "both minutes of a stay, too", 3);
        x.been(4, 4, 10, 10);
        x.been(4, 4, 0, 99);
        Check.due("two stays of one are one way", x.hands(), 3);
        Check.row(x, "two stays of one are one way", 19);
        x.walk(0, 4);
        Check.due("where one is now is no matter", x.hands(), 3);
    }

    private static void promise38NoneMoreThanItsPurse() {
        Check.promise(38, "none more in all than its PURSE: how many;");
        FairByEar x = Fairs.people(10, 10, 9);
        x.been(0, 4, 5, 9);
        x.been(1, 4, 9, 9);
        x.been(2, 4, 0, 99);
        x.clink(4, 5, 10);
        Check.due("10 of 10, not of 9", x.hands(), 1);
        x.clink(4, 9, 5);
        Check.due("the first has nothing left", x.hands(), 2);
        x.clink(4, 9, 5);
        Check.due("5 and 5 of 10, not of 9", x.hands(), 3);
        x.clink(4, 10, 9);
        Check.due("the third must have taken this", x.hands(), 1);
        x.clink(4, 10, 1);
        Check.due("no way any more", x.hands(), 0);
        FairByEar y = Fairs.people(50);
        y.been(0, 0, 0, 0);
        y.clink(0, 0, 1);
        Check.due("its purse", y.hands(), 1);
        y.gas(0, 500);
        y.lamp(0);
        Check.due("its purse now", y.hands(), 0);
    }

    private static void promise38TheRow() {
        Check.promise(38, "the ROW: of each clink all that it can be (bits) in some such way.");
        FairByEar x = Fairs.people(10, 10, 9);
        x.been(0, 4, 5, 9);
        x.been(1, 4, 9, 9);
        x.been(2, 4, 0, 99);
        x.clink(4, 5, 10);
        x.hands();
        Check.row(x, "one way", 1);
        x.clink(4, 9, 5);
        x.hands();
        Check.row(x, "the first was there, but in no such way", 1, 6);
        x.clink(4, 9, 5);
        x.hands();
        Check.row(x, "none is of the third in both", 1, 6, 6);
        x.clink(4, 10, 9);
        x.hands();
        Check.row(x, "the third must have taken the last", 1, 2, 2, 4);
        x.clink(4, 10, 1);
        x.hands();
        Check.row(x, "no way any more", 0, 0, 0, 0, 0);
    }
}
