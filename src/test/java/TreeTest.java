/** Promises 13 to 18: what TESTS tell of GOODS. */
public final class TreeTest {
    public static void main(String[] args) {
        promise13Sure();
        promise13Refused();
        promise14Keep();
        promise14OfAsFew();
        promise14NotByAll();
        promise15Ban();
        promise15OfAsFew();
        promise16Tree();
        promise16LeftTogether();
        promise16FirstTest();
        promise16TheMost();
        promise17Copper();
        promise17NoBranchCostsMore();
        promise18Asks();
        promise18Refused();
        Check.done(13, 18);
    }

    /** GOODS of such OFTEN, and TESTS of such COSTS. */
    private static FairByEar fair(int[] often, int... costs) {
        FairByEar x = new FairByEar();
        for (int v : often) {
            x.good(v);
        }
        for (int cost : costs) {
            x.test(cost);
        }
        return x;
    }

    private static int[] often(int... v) {
        return v;
    }

    /** Bits of GOODS that are none, or not of those there are, in a call with other arguments that are fine. */
    private static void wrongGoods(String call, Integer... others) {
        for (int goods : new int[] {0, -1, 8, 9, 15, 1 << 30, Integer.MIN_VALUE, Integer.MAX_VALUE}) {
            Integer[] args = new Integer[others.length + 1];
            args[0] = goods;
            System.arraycopy(others, 0, args, 1, others.length);
            Still.refused(Fairs::some, call, args);
        }
        Integer[] first = new Integer[others.length + 1];
        first[0] = 1;
        System.arraycopy(others, 0, first, 1, others.length);
        Still.refused(FairByEar::new, call, first);
    }

    /** 8 GOODS, 6 TESTS of COSTS 1 .. 6: each tells one GOOD alone, so that all are taken, the cheapest first. */
    private static FairByEar sixDeep() {
        FairByEar x = Fairs.goods(8, 1, 2, 3, 4, 5, 6);
        for (int test = 0; test < 6; test++) {
            x.answer(test, test, 9);
        }
        return x;
    }

    private static void promise13Sure() {
        Check.promise(13, "How many of GOODS told as bits (those there are; 1 ..) would be told by TESTS told as bits "
            + "for sure (no other one of them has the same ANSWERS to all): the ROW: they (bits).");
        FairByEar x = Fairs.goods(5, 1, 1);
        Fairs.answers(x, 0, "01122");
        Fairs.answers(x, 1, "00100");
        Check.due("by none", x.sure(31, 0), 0);
        Check.row(x, "by none", 0);
        Check.due("one alone by none", x.sure(8, 0), 1);
        Check.row(x, "one alone by none", 8);
        Check.due("by the first", x.sure(31, 1), 1);
        Check.row(x, "by the first", 1);
        Check.due("by the second", x.sure(31, 2), 1);
        Check.row(x, "by the second", 4);
        Check.due("by both", x.sure(31, 3), 3);
        Check.row(x, "by both", 7);
        Check.due("of fewer", x.sure(13, 1), 3);
        Check.row(x, "of fewer", 13);
        Check.due("the first alone", x.sure(1, 0), 1);
        Check.row(x, "the first alone", 1);
        x.test(1);
        x.good(1);
        Check.due("answers at first are 0", x.sure(63, 7), 2);
        Check.row(x, "answers at first are 0: the first has another like it", 6);
        FairByEar y = Fairs.goods(10, 1, 1, 1, 1, 1, 1);
        y.sheet(5, 2, 10, 0, 1);
        Check.due("all by the last", y.sure(1023, 63), 10);
        Check.row(y, "all by the last", 1023);
        Check.due("all but the last", y.sure(1023, 31), 0);
        Check.row(y, "all but the last", 0);
    }

    private static void promise13Refused() {
        Check.promise(13, "NONE: others.");
        wrongGoods("sure", 0);
        Still.refusedBeyond("sure", new int[] {5, 2}, Still.ends(1, 7), Still.ends(0, 3));
        Still.refused(Fairs::full, "sure", 1024, 0);
        Still.refused(Fairs::full, "sure", 1023, 64);
        Still.refused(() -> Fairs.goods(1), "sure", 1, 1);
    }

    private static void promise14Keep() {
        Check.promise(14, "The fewest TESTS by which all of GOODS told as bits have unlike ANSWERS, pair by "
            + "pair: how many; the ROW: they:");
        FairByEar x = Fairs.goods(4, 9, 1, 1);
        Fairs.answers(x, 0, "0123");
        Fairs.answers(x, 1, "0011");
        Fairs.answers(x, 2, "0101");
        Check.due("one test, dear as it is", x.keep(15), 1);
        Check.row(x, "one test, dear as it is", 1);
        x.answer(3, 0, 2);
        Check.due("two tests", x.keep(15), 2);
        Check.row(x, "two tests", 6);
        Fairs.answers(x, 0, "0000");
        x.test(9);
        Fairs.answers(x, 3, "0123");
        Check.due("one test, though its bits are more", x.keep(15), 1);
        Check.row(x, "one test, though its bits are more", 8);
        Check.due("one good", x.keep(8), 0);
        Check.row(x, "one good", 0);
        Check.due("a good without tests", Fairs.goods(1).keep(1), 0);
        FairByEar y = Fairs.goods(7, 9, 9, 9, 9, 9, 9);
        for (int i = 0; i < 6; i++) {
            y.answer(i, i, 1);
        }
        Check.due("all six", y.keep(127), 6);
        Check.row(y, "all six", 63);
        Check.due("five for six", y.keep(126), 5);
        Check.row(y, "five for six", 62);
        Check.promise(14, "NONE: others.");
        wrongGoods("keep");
        Still.refusedBeyond("keep", new int[] {5}, Still.ends(1, 7));
        Still.refused(Fairs::full, "keep", 1024);
    }

    private static void promise14OfAsFew() {
        Check.promise(14, "of as few the least COST in all, then the least bits.");
        FairByEar x = Fairs.goods(4, 9, 9, 3, 3, 3);
        Fairs.answers(x, 0, "0012");
        Fairs.answers(x, 1, "0101");
        Fairs.answers(x, 2, "0011");
        Fairs.answers(x, 3, "0101");
        Check.due("the cheapest two", x.keep(15), 2);
        Check.row(x, "the cheapest two", 12);
        Fairs.answers(x, 4, "0011");
        Check.due("of equal ones the least bits", x.keep(15), 2);
        Check.row(x, "of equal ones the least bits", 12);
        Check.due("a cheaper one behind a dear one", x.keep(5), 1);
        Check.row(x, "a cheaper one behind a dear one", 4);
        FairByEar y = Fairs.goods(2, 1, 1, 1);
        Fairs.answers(y, 0, "00");
        Fairs.answers(y, 1, "01");
        Fairs.answers(y, 2, "01");
        Check.due("of equal ones the least bits", y.keep(3), 1);
        Check.row(y, "of equal ones the least bits", 2);
    }

    private static void promise14NotByAll() {
        Check.promise(14, "-2: all TESTS do not do;");
        FairByEar x = Fairs.goods(4, 1, 1);
        Fairs.answers(x, 0, "0012");
        Check.due("two of them are alike", x.keep(15), -2);
        Check.due("these two", x.keep(3), -2);
        Check.due("without one of them", x.keep(14), 1);
        x.answer(0, 1, 9);
        Check.due("the last test does", x.keep(15), 2);
        Check.due("no tests", Fairs.goods(2).keep(3), -2);
        Still.still(Fairs::full, "-2", "keep", 1023);
    }

    private static void promise15Ban() {
        Check.promise(15, "The fewest of GOODS told as bits that must not be sold, so that TESTS told as bits keep the "
            + "others apart: how many; the ROW: they:");
        FairByEar x = fair(often(2, 5, 4, 1, 9), 1, 1);
        Fairs.answers(x, 0, "00011");
        Check.due("all but one of each group", x.ban(31, 1), 3);
        Check.row(x, "all but one of each group", 1 + 4 + 8);
        Check.due("by no test all but one", x.ban(31, 0), 4);
        Check.row(x, "by no test all but one", 1 + 2 + 4 + 8);
        Check.due("none", x.ban(9, 1), 0);
        Check.row(x, "none", 0);
        Check.due("one alone by no test", x.ban(16, 0), 0);
        Check.row(x, "one alone by no test", 0);
        x.answer(1, 1, 1);
        Check.due("by both", x.ban(31, 3), 2);
        Check.row(x, "by both", 1 + 8);
        Check.promise(15, "NONE: others.");
        wrongGoods("ban", 0);
        Still.refusedBeyond("ban", new int[] {5, 2}, Still.ends(1, 7), Still.ends(0, 3));
        Still.refused(Fairs::full, "ban", 1024, 0);
        Still.refused(Fairs::full, "ban", 1023, 64);
        Still.refused(() -> Fairs.goods(1), "ban", 1, 1);
    }

    private static void promise15OfAsFew() {
        Check.promise(15, "of as few the least sum of OFTEN, then the least bits.");
        FairByEar x = fair(often(2, 5, 5, 1, 9), 1);
        Fairs.answers(x, 0, "00011");
        x.ban(31, 1);
        Check.row(x, "the most often stays; of equal ones the last", 1 + 2 + 8);
        FairByEar y = fair(often(9, 1), 1);
        y.ban(3, 1);
        Check.row(y, "the first stays, though its bits are less", 2);
        FairByEar z = Fairs.goods(3, 1);
        z.ban(7, 0);
        Check.row(z, "of equal ones the least bits", 3);
        z.ban(5, 0);
        Check.row(z, "of equal ones the least bits", 1);
    }

    private static void promise16Tree() {
        Check.promise(16, "The best tree of TESTS that tells which of GOODS told as bits it is (one after the "
            + "other, the next by what was answered): the least sum over these GOODS of OFTEN times COST of all "
            + "TESTS taken for it;");
        FairByEar x = fair(often(9, 1, 1), 5, 2, 2);
        Fairs.answers(x, 0, "012");
        Fairs.answers(x, 1, "100");
        Fairs.answers(x, 2, "001");
        Check.due("the often one first", x.tree(7), 11 * 2 + 2 * 2);
        Check.due("one alone", x.tree(2), 0);
        Check.due("two", x.tree(5), 10 * 2);
        FairByEar y = sixDeep();
        Check.due("all six tests", y.tree(255), 8 + 7 * 2 + 6 * 3 + 5 * 4 + 4 * 5 + 3 * 6);
        FairByEar z = Fairs.goods(4, 1, 1, 1);
        Fairs.answers(z, 0, "0011");
        Fairs.answers(z, 1, "0100");
        Fairs.answers(z, 2, "0001");
        Check.due("the next by what was answered", z.tree(15), 8);
        FairByEar most = new FairByEar();
        for (int i = 0; i < 10; i++) {
            most.good(9);
        }
        most.test(9);
        most.sheet(0, 2, 10, 0, 1);
        Check.due("ten answers", most.tree(1023), 10 * 9 * 9);
        Check.promise(16, "NONE: others.");
        wrongGoods("tree");
        Still.refusedBeyond("tree", new int[] {5}, Still.ends(1, 7));
        Still.refused(Fairs::full, "tree", 1024);
    }

    private static void promise16LeftTogether() {
        Check.promise(16, "GOODS that no TEST parts any more are left together: that sum;");
        FairByEar x = fair(often(9, 1, 1), 5, 2, 2);
        Check.due("all alike", x.tree(7), 0);
        Fairs.answers(x, 1, "100");
        Check.due("two are left together", x.tree(7), 22);
        Check.due("these two", x.tree(6), 0);
        Check.due("no tests", Fairs.goods(3).tree(7), 0);
    }

    private static void promise16FirstTest() {
        Check.promise(16, "the ROW: the first TEST (NONE, if none parts them; of equal ones the first),");
        FairByEar x = fair(often(9, 1, 1), 5, 2, 2);
        x.tree(7);
        Check.row(x, "none parts them", -1, 0);
        Fairs.answers(x, 0, "012");
        Fairs.answers(x, 1, "100");
        Fairs.answers(x, 2, "001");
        x.tree(7);
        Check.row(x, "the often one first", 1, 4);
        x.tree(5);
        Check.row(x, "of equal tests the first", 1, 2);
        x.tree(2);
        Check.row(x, "one alone", -1, 0);
        FairByEar y = Fairs.goods(2, 9, 9, 9, 9, 9, 1);
        y.sheet(0, 2, 2, 0, 1);
        y.sheet(5, 2, 2, 0, 1);
        y.tree(3);
        Check.row(y, "the last is the cheapest", 5, 1);
        FairByEar z = Fairs.goods(2);
        z.tree(3);
        Check.row(z, "no tests", -1, 0);
    }

    private static void promise16TheMost() {
        Check.promise(16, "the most that it costs for some GOOD (by such a tree, always the first TEST of equal "
            + "ones).");
        FairByEar deep = sixDeep();
        deep.tree(255);
        Check.row(deep, "all six tests", 0, 1 + 2 + 3 + 4 + 5 + 6);
        FairByEar x = Fairs.goods(4, 4, 2, 2);
        Fairs.answers(x, 0, "0123");
        Fairs.answers(x, 1, "0011");
        Fairs.answers(x, 2, "0101");
        Check.due("4 at once or 2 and 2", x.tree(15), 16);
        Check.row(x, "the first of equal ones", 0, 4);
        x = fair(often(6, 2, 2), 3, 2, 2);
        Fairs.answers(x, 0, "012");
        Fairs.answers(x, 1, "100");
        Fairs.answers(x, 2, "001");
        Check.due("30, or 20 and 8", x.tree(7), 28);
        Check.row(x, "it costs more for some", 1, 4);
        x = fair(often(1, 9, 1), 2, 2);
        Fairs.answers(x, 0, "010");
        Fairs.answers(x, 1, "001");
        Check.due("22, and 4 for two", x.tree(7), 26);
        Check.row(x, "the first good costs the most, too", 0, 4);
        x = fair(often(2, 1, 1), 3, 2, 2);
        Fairs.answers(x, 0, "012");
        Fairs.answers(x, 1, "011");
        Fairs.answers(x, 2, "001");
        Check.due("4 by 3, or 4 by 2 and 2 by 2", x.tree(7), 12);
        Check.row(x, "by the first of equal ones it costs 3", 0, 3);
        x = fair(often(2, 1, 1), 2, 2, 3);
        Fairs.answers(x, 0, "011");
        Fairs.answers(x, 1, "001");
        Fairs.answers(x, 2, "012");
        x.tree(7);
        Check.row(x, "told in another order it costs 4", 0, 4);
    }

    private static void promise17Copper() {
        Check.promise(17, "With so many coppers (0 .. 99) for the TESTS of one GOOD: the greatest sum of OFTEN "
            + "of those of GOODS told as bits that can be told for sure by a tree,");
        FairByEar x = fair(often(3, 4, 5), 2, 1);
        Fairs.answers(x, 0, "011");
        Fairs.answers(x, 1, "001");
        int[] due = {0, 5, 5, 12, 12};
        for (int coppers = 0; coppers < due.length; coppers++) {
            Check.due("for " + coppers, x.copper(7, coppers), due[coppers]);
        }
        Check.due("99", x.copper(7, 99), 12);
        Check.due("one is told for nothing", x.copper(2, 0), 4);
        Check.due("it tells no row", x.count(8), 0);
        Check.due("without the first good", x.copper(6, 1), 9);
        x.answer(2, 1, 0);
        Check.due("two stay together", x.copper(7, 99), 3);
        Check.due("no tests", Fairs.goods(2).copper(3, 99), 0);
        Check.promise(17, "NONE: others.");
        wrongGoods("copper", 1);
        Still.refusedBeyond("copper", new int[] {5, 2}, Still.ends(1, 7), Still.ends(0, 99));
        Still.refused(Fairs::full, "copper", 1024, 0);
    }

    private static void promise17NoBranchCostsMore() {
        Check.promise(17, "of which no branch costs more.");
        FairByEar x = sixDeep();
        int[] due = {0, 1, 1, 2, 2, 2, 3};
        for (int coppers = 0; coppers < due.length; coppers++) {
            Check.due("for " + coppers, x.copper(255, coppers), due[coppers]);
        }
        Check.due("just too few for all six", x.copper(255, 20), 5);
        Check.due("just enough for all six", x.copper(255, 21), 6);
        Check.due("the last two stay together", x.copper(255, 99), 6);
        Check.due("without one of them", x.copper(127, 21), 7);
        branchesEachTheirOwn();
        FairByEar y = Fairs.goods(2, 9);
        y.answer(1, 0, 1);
        Check.due("8 are too few for a test of 9", y.copper(3, 8), 0);
        Check.due("9 are not", y.copper(3, 9), 2);
    }

    /** What was found of one branch does not get into another one, nor into that of another first TEST. */
    private static void branchesEachTheirOwn() {
        FairByEar x = Fairs.goods(4, 3, 1, 2);
        Fairs.answers(x, 0, "0011");
        Fairs.answers(x, 1, "0102");
        Fairs.answers(x, 2, "0010");
        Check.due("the first test takes all coppers, the second and the third tell all", x.copper(15, 3), 4);
        FairByEar y = fair(often(9, 9, 1, 1, 1), 1, 1);
        Fairs.answers(y, 0, "00111");
        Fairs.answers(y, 1, "01222");
        Check.due("two are told, three are not", y.copper(31, 99), 18);
        FairByEar z = fair(often(1, 1, 1, 9, 9), 1, 1);
        Fairs.answers(z, 0, "11100");
        Fairs.answers(z, 1, "22201");
        Check.due("three are not told, two are", z.copper(31, 99), 18);
    }

    private static void promise18Asks() {
        Check.promise(18, "What one hears of a GOOD by a tree(): the ROW: TESTS taken, in order, then the GOODS "
            + "left (bits). How many TESTS.");
        FairByEar x = fair(often(9, 1, 1), 5, 2, 2);
        Check.due("none parts them", x.asks(6, 2), 0);
        Check.row(x, "none parts them", 6);
        Fairs.answers(x, 0, "012");
        Fairs.answers(x, 1, "100");
        Fairs.answers(x, 2, "001");
        Check.due("the often one", x.asks(7, 0), 1);
        Check.row(x, "the often one", 1, 1);
        Check.due("another", x.asks(7, 1), 2);
        Check.row(x, "another", 1, 2, 2);
        Check.due("one alone", x.asks(2, 1), 0);
        Check.row(x, "one alone", 2);
        Fairs.answers(x, 0, "000");
        Fairs.answers(x, 2, "000");
        Check.due("two left together", x.asks(7, 2), 1);
        Check.row(x, "two left together", 1, 6);
        FairByEar y = sixDeep();
        Check.due("all six, without a tree ahead", y.asks(255, 7), 6);
        Check.row(y, "all six, without a tree ahead", 0, 1, 2, 3, 4, 5, 64 + 128);
        Check.due("the fifth of them", y.asks(255, 4), 5);
        Check.row(y, "the fifth of them", 0, 1, 2, 3, 4, 16);
        y.tree(3);
        Check.due("the tree is of these goods, not of those told last", y.asks(255, 0), 1);
        Check.row(y, "the tree is of these goods, not of those told last", 0, 1);
    }

    private static void promise18Refused() {
        Check.promise(18, "NONE: others, a GOOD that is not one of them.");
        wrongGoods("asks", 0);
        Still.refusedBeyond("asks", new int[] {7, 1}, Still.ends(2, 7), Still.ends(0, 2));
        Still.refused(Fairs::some, "asks", 5, 1);
        Still.refused(Fairs::some, "asks", 1, 1);
        Still.refused(Fairs::some, "asks", 6, 0);
        Still.refused(Fairs::some, "asks", 1, 32);
        Still.refused(Fairs::some, "asks", 7, 3);
        Still.refused(Fairs::full, "asks", 1023, 10);
    }
}
