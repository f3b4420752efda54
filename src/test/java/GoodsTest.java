/** Promises 8 to 12: GOODS, TESTS and ANSWERS. */
public final class GoodsTest {
    private static final int BYTES = 0;
    private static final int SHORTS = 1;
    private static final int INTS = 2;
    private static final int MISSING = 3;

    public static void main(String[] args) {
        promise8Good();
        promise9Test();
        promise10Answer();
        promise11Entries();
        promise11Kinds();
        promise11Behind();
        promise11Sum();
        promise11Below0();
        promise11Missing();
        promise11TheseFirst();
        promise12Apart();
        Check.done(8, 12);
    }

    private static void promise8Good() {
        Check.promise(8, "A GOOD more: its number.");
        FairByEar x = new FairByEar();
        for (int i = 0; i < 10; i++) {
            Check.due("good " + i, x.good(i < 9 ? i + 1 : 1), i);
            Check.due("as many", x.count(2), i + 1);
        }
        x.test(1);
        Fairs.answers(x, 0, "0123456789");
        for (int i = 0; i < 9; i++) {
            Check.due("OFTEN of each, by the sum of two", x.tree(1 << i | 512), i + 1 + 1);
        }
        Check.promise(8, "Refused: OFTEN not 1 .. 9, 10.");
        Still.refusedBeyond("good", new int[] {5}, Still.ends(1, 9));
        Still.refused(Fairs::full, "good", 1);
        Still.refused(FairByEar::new, "good", 0);
        Still.refused(FairByEar::new, "good", 10);
    }

    private static void promise9Test() {
        Check.promise(9, "A TEST more: its number.");
        FairByEar x = Fairs.goods(2);
        for (int i = 0; i < 6; i++) {
            Check.due("test " + i, x.test(9 - i), i);
            Check.due("as many", x.count(3), i + 1);
            x.answer(1, i, 1);
            Check.due("its COST, less than those ahead, for both", x.tree(3), 2 * (9 - i));
        }
        Check.promise(9, "Refused: others, 6.");
        Still.refusedBeyond("test", new int[] {5}, Still.ends(1, 9));
        Still.refused(Fairs::full, "test", 1);
        Still.refused(FairByEar::new, "test", 0);
        Still.refused(FairByEar::new, "test", 10);
    }

    private static void promise10Answer() {
        Check.promise(10, "ANSWER of a GOOD to a TEST becomes v: what it was.");
        FairByEar x = Fairs.goods(10, 1, 1, 1, 1, 1, 1);
        for (int i = 0; i < 60; i++) {
            Check.due("at first 0", x.answer(i % 10, i / 10, (i * 7 + 9) % 10), 0);
        }
        for (int i = 0; i < 60; i++) {
            Check.due("each its own", x.answer(i % 10, i / 10, 9), (i * 7 + 9) % 10);
            Check.due("it was 9", x.answer(i % 10, i / 10, 0), 9);
            Check.due("it was 0", x.answer(i % 10, i / 10, 0), 0);
        }
        Check.promise(10, "Refused: others.");
        Still.refusedBeyond("answer", new int[] {1, 1, 4}, Still.ends(0, 2), Still.ends(0, 1), Still.ends(0, 9));
        Still.refused(FairByEar::new, "answer", 0, 0, 0);
        Still.refused(() -> Fairs.goods(1), "answer", 0, 0, 0);
        Still.refused(() -> Fairs.goods(0, 1), "answer", 0, 0, 0);
        Still.refused(Fairs::full, "answer", 10, 5, 0);
        Still.refused(Fairs::full, "answer", 9, 6, 0);
    }

    /** ANSWERS of GOODS to TEST 0, a digit for each. */
    private static void answered(FairByEar x, String what, String digits) {
        for (int i = 0; i < digits.length(); i++) {
            int due = digits.charAt(i) - '0';
            Check.due(what + ": answer of " + i, x.answer(i, 0, due), due);
        }
    }

    private static void sheet(int kind, int n, int f, int step, String digits) {
        FairByEar x = Fairs.goods(digits.length(), 1, 1);
        for (int i = 0; i < digits.length(); i++) {
            x.answer(i, 1, 3);
        }
        String what = "kind " + kind + ", " + n + " entries " + f + " and " + step;
        int sum = 0;
        for (char digit : digits.toCharArray()) {
            sum += digit - '0';
        }
        Check.due(what, x.sheet(0, kind, n, f, step), sum);
        answered(x, what, digits);
        for (int i = 0; i < digits.length(); i++) {
            Check.due("the other test", x.answer(i, 1, 3), 3);
        }
    }

    private static void promise11Entries() {
        Check.promise(11, "ANSWERS of GOODS 0, 1, .. to a TEST, as a sheet tells them: bytes (kind 0), shorts (1), "
            + "ints (2) of n entries f, f + step, ..");
        for (int kind = BYTES; kind <= INTS; kind++) {
            sheet(kind, 3, 5, 2, "579");
            sheet(kind, 10, 0, 1, "0123456789");
            sheet(kind, 10, 9, -1, "9876543210");
            sheet(kind, 4, 7, 0, "7777");
            sheet(kind, 1, 4, 99, "4");
        }
        FairByEar x = Fairs.goods(2, 1, 1, 1, 1, 1, 1);
        Check.due("the last test", x.sheet(5, INTS, 2, 8, -8), 8);
        Check.due("the last test", x.apart(0, 1), 32);
    }

    private static void promise11Kinds() {
        Check.promise(11, "(of bytes, shorts the lowest bits, with their sign; put to 0 .. 9)");
        sheet(BYTES, 4, 260, 1, "4567");
        sheet(BYTES, 4, 126, 1, "9900");
        sheet(BYTES, 4, 254, 1, "0001");
        sheet(BYTES, 3, -256, 1, "012");
        sheet(BYTES, 3, -128, -1, "099");
        sheet(BYTES, 3, 65536 + 3, 256, "333");
        sheet(BYTES, 2, Integer.MIN_VALUE, 1, "01");
        sheet(BYTES, 2, Integer.MAX_VALUE, 0, "00");
        sheet(SHORTS, 4, 65536 + 1, 1, "1234");
        sheet(SHORTS, 4, 32766, 1, "9900");
        sheet(SHORTS, 4, 65534, 1, "0001");
        sheet(SHORTS, 2, 256, 1, "99");
        sheet(SHORTS, 3, -32768, -1, "099");
        sheet(SHORTS, 2, Integer.MIN_VALUE, 1, "01");
        sheet(SHORTS, 2, Integer.MAX_VALUE, 0, "00");
        sheet(INTS, 4, 8, 1, "8999");
        sheet(INTS, 4, -2, 1, "0001");
        sheet(INTS, 2, 65537, 1, "99");
        sheet(INTS, 2, 256, 65536, "99");
        sheet(INTS, 2, Integer.MAX_VALUE, 1, "90");
        sheet(INTS, 2, Integer.MIN_VALUE, -1, "09");
        sheet(INTS, 3, 1, Integer.MIN_VALUE, "101");
    }

    private static void promise11Behind() {
        Check.promise(11, "or a missing one (3): those behind it are 0");
        for (int kind = BYTES; kind <= INTS; kind++) {
            FairByEar x = Fairs.goods(4, 1);
            Fairs.answers(x, 0, "9999");
            Check.due("two entries", x.sheet(0, kind, 2, 5, 1), 11);
            answered(x, "two entries", "5600");
            Fairs.answers(x, 0, "9999");
            Check.due("no entries", x.sheet(0, kind, 0, 5, 1), 0);
            answered(x, "no entries", "0000");
        }
        FairByEar x = Fairs.goods(4, 1);
        Fairs.answers(x, 0, "9999");
        x.sheet(0, MISSING, 4, 5, 1);
        answered(x, "missing", "0000");
    }

    private static void promise11Sum() {
        Check.promise(11, "the sum of all");
        FairByEar x = Fairs.goods(10, 1);
        Check.due("the most", x.sheet(0, INTS, 10, 9, 0), 90);
        Check.due("of those that are put to 0 .. 9", x.sheet(0, INTS, 10, -4, 2), 2 + 4 + 6 + 8 + 9 * 3);
        FairByEar y = Fairs.goods(4, 1);
        Check.due("more entries than goods", y.sheet(0, INTS, 10, 1, 0), 4);
        y.good(1);
        Check.due("a good told later has 0", y.answer(4, 0, 0), 0);
        FairByEar z = Fairs.goods(0, 1);
        Check.due("no goods", z.sheet(0, INTS, 10, 9, 0), 0);
    }

    private static void promise11Below0() {
        Check.promise(11, "-2: n below 0 (of kinds 0 .. 2; nothing changes)");
        for (int kind = BYTES; kind <= INTS; kind++) {
            Still.still(Fairs::some, "-2", "sheet", 0, kind, -1, 9, 9);
            Still.still(Fairs::some, "-2", "sheet", 1, kind, Integer.MIN_VALUE, 9, 9);
        }
        FairByEar x = Fairs.goods(2, 1);
        Check.due("of kind 3 it is no matter", x.sheet(0, MISSING, -1, 9, 9), -3);
        Check.due("of kind 3 it is no matter", x.sheet(0, MISSING, Integer.MIN_VALUE, 9, 9), -3);
    }

    private static void promise11Missing() {
        Check.promise(11, "-3: missing (all 0).");
        FairByEar x = Fairs.goods(3, 1, 1);
        Fairs.answers(x, 0, "987");
        Fairs.answers(x, 1, "123");
        Check.due("missing", x.sheet(0, MISSING, 0, 9, 9), -3);
        answered(x, "all 0", "000");
        Check.due("the other test", x.answer(2, 1, 0), 3);
        Fairs.answers(x, 0, "987");
        Check.due("missing, 10 entries", x.sheet(0, MISSING, 10, 9, 9), -3);
        answered(x, "all 0", "000");
        Fairs.answers(x, 0, "987");
        Check.due("missing, entries below 0", x.sheet(0, MISSING, -7, 9, 9), -3);
        answered(x, "all 0", "000");
    }

    private static void promise11TheseFirst() {
        Check.promise(11, "NONE: another TEST, kind, n above 10 (these first).");
        Still.refusedBeyond("sheet", new int[] {1, INTS, 3, 5, 1}, Still.ends(0, 1), Still.ends(BYTES, MISSING),
            Still.ends(Integer.MIN_VALUE, 10), Still.ends(Integer.MIN_VALUE, Integer.MAX_VALUE),
            Still.ends(Integer.MIN_VALUE, Integer.MAX_VALUE));
        for (int kind = BYTES; kind <= MISSING; kind++) {
            Still.refused(Fairs::some, "sheet", 0, kind, 11, 9, 9);
            Still.refused(Fairs::some, "sheet", 2, kind, -1, 9, 9);
            Still.refused(Fairs::some, "sheet", -1, kind, -1, 9, 9);
            Still.refused(FairByEar::new, "sheet", 0, kind, 0, 0, 0);
        }
        Still.refused(Fairs::some, "sheet", 0, 4, -1, 9, 9);
        Still.refused(Fairs::some, "sheet", 0, -1, -1, 9, 9);
        Still.refused(Fairs::full, "sheet", 6, INTS, 1, 9, 9);
    }

    private static void promise12Apart() {
        Check.promise(12, "TESTS (bits) to which two GOODS have unlike ANSWERS.");
        FairByEar x = Fairs.goods(3, 1, 1, 1, 1, 1, 1);
        Check.due("none as long as all are 0", x.apart(0, 2), 0);
        for (int test = 0; test < 6; test++) {
            x.answer(2, test, 9);
            Check.due("one more", x.apart(0, 2), (2 << test) - 1);
            Check.due("and back", x.apart(2, 0), (2 << test) - 1);
        }
        x.answer(0, 3, 9);
        Check.due("alike again", x.apart(0, 2), 63 - 8);
        Check.due("each pair its own", x.apart(0, 1), 8);
        Check.due("from itself", x.apart(2, 2), 0);
        Check.due("without tests", Fairs.goods(2).apart(0, 1), 0);
        Check.promise(12, "NONE: none such.");
        Still.refusedBeyond("apart", new int[] {0, 1}, Still.ends(0, 2), Still.ends(0, 2));
        Still.refused(FairByEar::new, "apart", 0, 0);
    }
}
