/** Promises 8 to 18: goods and tests. */
public final class GoodsTest {
    public static void main(String[] args) {
        goodsAndTests();
        answers();
        sheets();
        toldForSure();
        keptApart();
        banned();
        trees();
        coppers();
        wrongBits();
        Check.done();
    }

    private static FairByEar fair(int goods, int... costs) {
        FairByEar x = new FairByEar();
        for (int i = 0; i < goods; i++) {
            x.good(1);
        }
        for (int cost : costs) {
            x.test(cost);
        }
        return x;
    }

    /** ANSWERS to a TEST, a digit for each GOOD. */
    private static void answers(FairByEar x, int test, String digits) {
        for (int i = 0; i < digits.length(); i++) {
            x.answer(i, test, digits.charAt(i) - '0');
        }
    }

    private static void goodsAndTests() {
        FairByEar x = new FairByEar();
        Check.due("often 0", x.good(0), -1);
        Check.due("often 10", x.good(10), -1);
        Check.due("cost 0", x.test(0), -1);
        Check.due("cost 10", x.test(10), -1);
        for (int i = 0; i < 10; i++) {
            Check.due("good", x.good(i < 9 ? i + 1 : 1), i);
        }
        Check.due("good 10", x.good(1), -1);
        for (int i = 0; i < 6; i++) {
            Check.due("test", x.test(9 - i), i);
        }
        Check.due("test 6", x.test(1), -1);
        Check.due("goods", x.count(2), 10);
        Check.due("tests", x.count(3), 6);
    }

    private static void answers() {
        FairByEar x = fair(2, 1, 1, 1);
        Check.due("at first 0", x.answer(0, 0, 9), 0);
        Check.due("it was 9", x.answer(0, 0, 4), 9);
        Check.due("10", x.answer(0, 0, 10), -1);
        Check.due("-1", x.answer(0, 0, -1), -1);
        Check.due("good 2", x.answer(2, 0, 1), -1);
        Check.due("good -1", x.answer(-1, 0, 1), -1);
        Check.due("test 3", x.answer(0, 3, 1), -1);
        Check.due("test -1", x.answer(0, -1, 1), -1);
        Check.due("it stayed 4", x.answer(0, 0, 4), 4);
        x.answer(1, 2, 1);
        Check.due("apart", x.apart(0, 1), 5);
        Check.due("apart, back", x.apart(1, 0), 5);
        Check.due("from itself", x.apart(1, 1), 0);
        Check.due("good 2", x.apart(0, 2), -1);
        Check.due("good -1", x.apart(-1, 0), -1);
    }

    private static void sheets() {
        FairByEar x = fair(4, 1, 1);
        Check.due("ints", x.sheet(0, 2, 3, 5, 3), 5 + 8 + 9);
        Check.due("good 2 has 9", x.answer(2, 0, 9), 9);
        Check.due("one behind it", x.answer(3, 0, 7), 0);
        Check.due("bytes: 260 is 4", x.sheet(0, 0, 4, 260, 1), 4 + 5 + 6 + 7);
        Check.due("bytes: 200 is below 0", x.sheet(0, 0, 4, 200, 1), 0);
        Check.due("bytes: 127 and 128", x.sheet(0, 0, 2, 127, 1), 9);
        Check.due("shorts: 65537 is 1", x.sheet(0, 1, 2, 65537, 1), 1 + 2);
        Check.due("shorts: 40000 is below 0", x.sheet(0, 1, 4, 40000, 1), 0);
        Check.due("ints: 65537 is 9", x.sheet(0, 2, 2, 65537, 1), 18);
        Check.due("ints go round", x.sheet(0, 2, 2, Integer.MAX_VALUE, 1), 9);
        Check.due("those behind are 0", x.answer(2, 0, 5), 0);
        Check.due("no entries", x.sheet(0, 2, 0, 9, 9), 0);
        Check.due("all 0", x.answer(2, 0, 5), 0);
        Check.due("below 0", x.sheet(0, 2, -1, 9, 9), -2);
        Check.due("nothing changed", x.answer(2, 0, 5), 5);
        x.answer(0, 0, 5);
        Check.due("missing", x.sheet(0, 3, -7, 9, 9), -3);
        Check.due("all 0", x.answer(0, 0, 0), 0);
        Check.due("all 0", x.answer(2, 0, 6), 0);
        Check.due("missing, but n above 10", x.sheet(0, 3, 11, 9, 9), -1);
        Check.due("n above 10", x.sheet(0, 0, 11, 9, 9), -1);
        Check.due("kind 4", x.sheet(0, 4, -1, 9, 9), -1);
        Check.due("kind -1", x.sheet(0, -1, 1, 9, 9), -1);
        Check.due("test 2", x.sheet(2, 0, -1, 9, 9), -1);
        Check.due("test -1", x.sheet(-1, 3, 0, 9, 9), -1);
        Check.due("nothing changed", x.answer(2, 0, 6), 6);
        Check.due("the other test", x.answer(2, 1, 6), 0);
        Check.due("more entries than goods", x.sheet(0, 2, 10, 1, 0), 4);
        x.good(1);
        Check.due("a good told later has 0", x.answer(4, 0, 0), 0);
    }

    private static void toldForSure() {
        FairByEar x = fair(5, 1, 1);
        answers(x, 0, "01122");
        answers(x, 1, "00100");
        Check.due("by none", x.sure(31, 0), 0);
        Check.row(x, "by none", 0);
        Check.due("one alone by none", x.sure(8, 0), 1);
        Check.row(x, "one alone by none", 8);
        Check.due("by the first", x.sure(31, 1), 1);
        Check.row(x, "by the first", 1);
        Check.due("by both", x.sure(31, 3), 3);
        Check.row(x, "by both", 7);
        Check.due("of fewer", x.sure(13, 1), 3);
        Check.row(x, "of fewer", 13);
        Check.due("the first alone", x.sure(1, 0), 1);
        Check.row(x, "the first alone", 1);
        x.test(1);
        x.good(1);
        Check.due("answers at first are 0", x.sure(63, 7), 2);
        Check.row(x, "answers at first are 0: the first has another like it", 6);
    }

    private static void keptApart() {
        FairByEar x = fair(4, 9, 9, 3, 3, 3);
        answers(x, 0, "0123");
        Check.due("one test", x.keep(15), 1);
        Check.row(x, "one test", 1);
        answers(x, 0, "0012");
        answers(x, 1, "0101");
        answers(x, 2, "0011");
        answers(x, 3, "0101");
        Check.due("the cheapest two", x.keep(15), 2);
        Check.row(x, "the cheapest two", 12);
        answers(x, 4, "0011");
        Check.due("of equal ones the least bits", x.keep(15), 2);
        Check.row(x, "of equal ones the least bits", 12);
        Check.due("one good", x.keep(8), 0);
        Check.row(x, "one good", 0);
        answers(x, 1, "0000");
        answers(x, 3, "0000");
        Check.due("all do not do", x.keep(15), -2);
        Check.due("of these", x.keep(3), -2);
        Check.due("of others", x.keep(5), 1);
        Check.row(x, "of others: test 2 is cheaper than 0", 4);
        FairByEar y = fair(2);
        Check.due("no tests", y.keep(3), -2);
        Check.due("no tests, one good", y.keep(2), 0);
    }

    private static void banned() {
        FairByEar x = new FairByEar();
        int[] often = {2, 5, 5, 1, 9};
        for (int v : often) {
            x.good(v);
        }
        x.test(1);
        answers(x, 0, "00011");
        Check.due("the rest of each group", x.ban(31, 1), 3);
        Check.row(x, "the most often stays; of equal ones the last", 1 + 2 + 8);
        Check.due("by no test", x.ban(15, 0), 3);
        Check.row(x, "by no test", 1 + 2 + 8);
        Check.due("none", x.ban(9, 1), 0);
        Check.row(x, "none", 0);
        x = new FairByEar();
        x.good(9);
        x.good(1);
        x.test(1);
        Check.due("the first stays", x.ban(3, 1), 1);
        Check.row(x, "the first stays", 2);
    }

    private static void trees() {
        FairByEar x = new FairByEar();
        x.good(9);
        x.good(1);
        x.good(1);
        x.test(5);
        x.test(2);
        x.test(2);
        answers(x, 0, "012");
        answers(x, 1, "100");
        answers(x, 2, "001");
        Check.due("the often one first", x.tree(7), 11 * 2 + 2 * 2);
        Check.row(x, "the often one first", 1, 4);
        Check.due("path of the often one", x.asks(7, 0), 1);
        Check.row(x, "path of the often one", 1, 1);
        Check.due("path of another", x.asks(7, 1), 2);
        Check.row(x, "path of another", 1, 2, 2);
        Check.due("equal tests", x.tree(5), 10 * 2);
        Check.row(x, "equal tests: the first", 1, 2);
        Check.due("one", x.tree(2), 0);
        Check.row(x, "one", -1, 0);
        Check.due("path of one alone", x.asks(2, 1), 0);
        Check.row(x, "path of one alone", 2);
        answers(x, 0, "000");
        answers(x, 2, "000");
        Check.due("some are left together", x.tree(7), 22);
        Check.row(x, "some are left together", 1, 2);
        Check.due("path to both", x.asks(7, 2), 1);
        Check.row(x, "path to both", 1, 6);
        Check.due("none parts them", x.tree(6), 0);
        Check.row(x, "none parts them", -1, 0);
        Check.due("path of none", x.asks(6, 2), 0);
        Check.row(x, "path of none", 6);
        theMostOfEqualTrees();
        deepTrees();
    }

    /** Each TEST tells one GOOD alone: all six are taken one after the other, the cheapest first. */
    private static void deepTrees() {
        FairByEar x = fair(8, 1, 2, 3, 4, 5, 6);
        for (int test = 0; test < 6; test++) {
            x.answer(test, test, 9);
        }
        Check.due("a path without a tree ahead", x.asks(255, 7), 6);
        Check.row(x, "a path without a tree ahead", 0, 1, 2, 3, 4, 5, 64 + 128);
        Check.due("the fifth of them", x.asks(255, 4), 5);
        Check.row(x, "the fifth of them", 0, 1, 2, 3, 4, 16);
        Check.due("deep", x.tree(255), 8 + 7 * 2 + 6 * 3 + 5 * 4 + 4 * 5 + 3 * 6);
        Check.row(x, "deep", 0, 21);
        int[] due = {0, 1, 1, 2, 2, 2, 3};
        for (int coppers = 0; coppers < due.length; coppers++) {
            Check.due("for " + coppers, x.copper(255, coppers), due[coppers]);
        }
        Check.due("for 20", x.copper(255, 20), 5);
        Check.due("for 21", x.copper(255, 21), 6);
        Check.due("the last two stay together", x.copper(255, 99), 6);
        Check.due("without one of them", x.copper(127, 21), 7);
        Check.due("keep", x.keep(127), 6);
        Check.due("the first alone", x.tree(1), 0);
        Check.row(x, "the first alone", -1, 0);
    }

    private static void theMostOfEqualTrees() {
        FairByEar x = fair(4, 4, 2, 2);
        answers(x, 0, "0123");
        answers(x, 1, "0011");
        answers(x, 2, "0101");
        Check.due("4 at once or 2 and 2", x.tree(15), 16);
        Check.row(x, "the first of equal ones", 0, 4);
        x = new FairByEar();
        x.good(6);
        x.good(2);
        x.good(2);
        x.test(3);
        x.test(2);
        x.test(2);
        answers(x, 0, "012");
        answers(x, 1, "100");
        answers(x, 2, "001");
        Check.due("30, or 20 and 8", x.tree(7), 28);
        Check.row(x, "it costs more for some", 1, 4);
        x = new FairByEar();
        x.good(1);
        x.good(9);
        x.good(1);
        x.test(2);
        x.test(2);
        answers(x, 0, "010");
        answers(x, 1, "001");
        Check.due("22, and 4 for two", x.tree(7), 26);
        Check.row(x, "the first good costs the most, too", 0, 4);
        Check.due("two of them", x.tree(3), 20);
        Check.row(x, "two of them", 0, 2);
    }

    private static void coppers() {
        FairByEar x = new FairByEar();
        x.good(3);
        x.good(4);
        x.good(5);
        x.test(2);
        x.test(1);
        answers(x, 0, "011");
        answers(x, 1, "001");
        Check.due("0", x.copper(7, 0), 0);
        Check.due("1", x.copper(7, 1), 5);
        Check.due("2", x.copper(7, 2), 5);
        Check.due("3", x.copper(7, 3), 12);
        Check.due("99", x.copper(7, 99), 12);
        Check.due("one is told for nothing", x.copper(2, 0), 4);
        Check.due("100", x.copper(7, 100), -1);
        Check.due("-1", x.copper(7, -1), -1);
        long rows = x.count(8);
        Check.due("it tells no row", rows, 0);
    }

    private static void wrongBits() {
        FairByEar x = fair(3, 1, 1);
        x.sure(7, 3);
        int[] wrong = {0, -1, 8, 15, Integer.MIN_VALUE, Integer.MAX_VALUE};
        for (int bits : wrong) {
            Check.due("sure", x.sure(bits, 0), -1);
            Check.due("keep", x.keep(bits), -1);
            Check.due("ban", x.ban(bits, 0), -1);
            Check.due("tree", x.tree(bits), -1);
            Check.due("copper", x.copper(bits, 1), -1);
            Check.due("asks", x.asks(bits, 0), -1);
        }
        int[] wrongTests = {-1, 4, 7, Integer.MIN_VALUE};
        for (int bits : wrongTests) {
            Check.due("sure", x.sure(7, bits), -1);
            Check.due("ban", x.ban(7, bits), -1);
        }
        Check.due("good 3", x.asks(7, 3), -1);
        Check.due("good -1", x.asks(7, -1), -1);
        Check.due("good 32", x.asks(7, 32), -1);
        Check.due("not one of them", x.asks(5, 1), -1);
        Check.row(x, "refused calls leave the row", 0);
    }
}
