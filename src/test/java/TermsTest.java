/** "Terms": what binds every promise. */
public final class TermsTest {
    public static void main(String[] args) {
        places();
        tunnels();
        far();
        walls();
        people();
        goods();
        tests();
        answers();
        wants();
        often();
        items();
        theRule();
        orAndAnd();
        comparing();
        plusAndMinus();
        times();
        aheadOfAThing();
        numbers();
        inParentheses();
        signs();
        asInts();
        theRow();
        fractions();
        comparedRows();
        refusedCalls();
        theTextIsEmptied();
        Check.done(Doc.TERMS, Doc.TERMS);
    }

    private static void places() {
        Check.terms("PLACES 0 .. 9,");
        for (int place = -1; place <= 10; place++) {
            FairByEar x = Fairs.some();
            boolean none = place < 0 || place > 9;
            int other = place == 5 ? 6 : 5;
            String what = " at " + place;
            Check.due("tunnel" + what, x.tunnel(place, other, 1) == -1, none);
            Check.due("tunnel" + what, x.tunnel(other, place, 1) == -1, none);
            Check.due("wall" + what, x.wall(place, 1) == -1, none);
            Check.due("far" + what, x.far(place, 0) == -1, none);
            Check.due("far" + what, x.far(0, place) == -1, none);
            Check.due("person" + what, x.person(place, 0, 0) == -1, none);
            Check.due("walk" + what, x.walk(0, place) == -1, none);
            Check.due("counted" + what, x.counted(place, 0, 0) == -1, none);
            Check.due("been" + what, x.been(0, place, 0, 0) == -1, none);
            Check.due("missing" + what, x.missing(place) == -1, none);
            Check.due("suspects" + what, x.suspects(place, 0) == -1, none);
            Check.due("clink" + what, x.clink(place, 0, 1) == -1, none);
            Check.due("loud" + what, x.loud(place) == -1, none);
            Check.due("heard" + what, x.heard(place, 0) == -1, none);
            Check.due("sound" + what, x.sound(place, 0) == -1, none);
            Check.due("sound" + what, x.sound(0, place) == -1, none);
            Check.due("lamp" + what, x.lamp(place) == -1, none);
        }
    }

    private static void tunnels() {
        Check.terms("TUNNELS (at most 16) with a LENGTH 1 .. 20;");
        FairByEar x = new FairByEar();
        for (int i = 0; i < 40; i++) {
            Check.due("tunnel " + i, x.tunnel(0, 1, 1), i < 16 ? i : -1);
        }
        Check.due("16", x.count(0), 16);
        for (int length = -1; length <= 22; length++) {
            FairByEar y = new FairByEar();
            boolean fine = length >= 1 && length <= 20;
            Check.due("of length " + length, y.tunnel(0, 1, length), fine ? 0 : -1);
            Check.due("of length " + length, y.far(0, 1), fine ? length : 999);
        }
    }

    private static void far() {
        Check.terms("FAR of two PLACES: the least sum of LENGTHS between them "
            + "(999: there is no way; of one and itself 0).");
        FairByEar x = new FairByEar();
        x.tunnel(0, 1, 10);
        x.tunnel(1, 2, 10);
        Check.due("a sum", x.far(0, 2), 20);
        x.tunnel(0, 2, 20);
        Check.due("as long", x.far(0, 2), 20);
        x.tunnel(0, 3, 9);
        x.tunnel(3, 2, 10);
        Check.due("less by another way", x.far(0, 2), 19);
        Check.due("the one between", x.far(1, 3), 19);
        Check.due("no way", x.far(0, 4), 999);
        Check.due("itself, in a ring", x.far(0, 0), 0);
        Check.due("itself, without tunnels", x.far(9, 9), 0);
    }

    private static void walls() {
        Check.terms("WALL of a PLACE 0 .. 20 (at first 0).");
        for (int v = -1; v <= 21; v++) {
            FairByEar x = new FairByEar();
            boolean fine = v >= 0 && v <= 20;
            Check.due("wall of " + v, x.wall(9, v), fine ? 0 : -1);
            Check.due("behind that", x.wall(9, 0), fine ? v : 0);
        }
    }

    private static void people() {
        Check.terms("PEOPLE 0 .. (at most 8): a PLACE, a PURSE 0 .. 999, a LOAD 0 .. 9.");
        FairByEar x = new FairByEar();
        for (int i = 0; i < 20; i++) {
            Check.due("person " + i, x.person(0, 0, 0), i < 8 ? i : -1);
        }
        Check.due("8", x.count(1), 8);
        for (int purse : new int[] {-1, 0, 999, 1000}) {
            Check.due("a purse of " + purse, new FairByEar().person(0, purse, 0), purse < 0 || purse > 999 ? -1 : 0);
        }
        for (int load = -1; load <= 10; load++) {
            Check.due("a load of " + load, new FairByEar().person(0, 0, load), load < 0 || load > 9 ? -1 : 0);
        }
    }

    private static void goods() {
        Check.terms("GOODS 0 .. (at most 10).");
        FairByEar x = new FairByEar();
        for (int i = 0; i < 20; i++) {
            Check.due("good " + i, x.good(1), i < 10 ? i : -1);
        }
        Check.due("10", x.count(2), 10);
    }

    private static void tests() {
        Check.terms("TESTS 0 .. (at most 6) with a COST 1 .. 9;");
        FairByEar x = new FairByEar();
        for (int i = 0; i < 20; i++) {
            Check.due("test " + i, x.test(1), i < 6 ? i : -1);
        }
        Check.due("6", x.count(3), 6);
        for (int cost = -1; cost <= 11; cost++) {
            FairByEar y = Fairs.goods(2);
            boolean fine = cost >= 1 && cost <= 9;
            Check.due("a cost of " + cost, y.test(cost), fine ? 0 : -1);
            y.answer(1, 0, 1);
            Check.due("a cost of " + cost, y.tree(3), fine ? 2 * cost : 0);
        }
    }

    private static void answers() {
        Check.terms("ANSWER of a GOOD to a TEST 0 .. 9 (at first 0).");
        for (int v = -1; v <= 10; v++) {
            FairByEar x = Fairs.goods(1, 1);
            boolean fine = v >= 0 && v <= 9;
            Check.due("an answer of " + v, x.answer(0, 0, v), fine ? 0 : -1);
            Check.due("behind that", x.answer(0, 0, 0), fine ? v : 0);
        }
        FairByEar x = Fairs.goods(1, 1);
        x.answer(0, 0, 5);
        x.good(1);
        Check.due("of a good told later, too", x.answer(1, 0, 0), 0);
        x.test(1);
        Check.due("to a test told later, too", x.answer(0, 1, 0), 0);
    }

    private static void wants() {
        Check.terms("WANTS of PEOPLE by GOODS 0 .. 99 (at first 0).");
        for (int v : new int[] {-1, 0, 1, 98, 99, 100}) {
            FairByEar x = Fairs.people(1);
            x.good(1);
            boolean fine = v >= 0 && v <= 99;
            Check.due("wants of " + v, x.want(0, 0, v), fine ? 0 : -1);
            Check.due("behind that", x.want(0, 0, 0), fine ? v : 0);
        }
    }

    /** good() tells OFTEN at once, so that no GOOD is ever seen with what it has at first. */
    private static void often() {
        Check.terms("OFTEN of a GOOD 1 .. 9 (at first 1).");
        for (int often = -1; often <= 11; often++) {
            FairByEar x = new FairByEar();
            boolean fine = often >= 1 && often <= 9;
            Check.due("often " + often, x.good(often), fine ? 0 : -1);
            Check.due("often " + often, x.copper(1, 0), fine ? often : -1);
        }
    }

    private static void items() {
        Check.terms("ITEMS 0 .. (at most 12): a GOOD, OWNER, a PRICE 0 .. 99 (at first 0), SOLD or not.");
        FairByEar x = Fairs.people(1);
        x.good(1);
        for (int i = 0; i < 20; i++) {
            Check.due("item " + i, x.item(0, 0, 0), i < 12 ? i : -1);
        }
        Check.due("12", x.count(4), 12);
        for (int price : new int[] {-1, 0, 1, 99, 100}) {
            FairByEar y = Fairs.people(1);
            y.good(1);
            boolean fine = price >= 0 && price <= 99;
            Check.due("a price of " + price, y.item(0, 0, price), fine ? 0 : -1);
            Check.due("a price of " + price, y.count(4), fine ? 1 : 0);
        }
        Check.due("not sold at first", x.thing(0, 3), 0);
    }

    private static void theRule() {
        Check.terms("THE RULE of the way is a text of at most 40 signs (at first none: 0 for all).");
        FairByEar x = Fairs.people(5, 9);
        x.first(0, 1);
        Check.row(x, "at first", 0, 0);
        String thirtyNine = "u" + "+0".repeat(19);
        Check.due("39", thirtyNine.length(), 39);
        value("39", thirtyNine, 30, 6, 2);
        value("40", thirtyNine + "0", 30, 6, 2);
        Check.due("41", Check.rule(x, thirtyNine + "00"), -41);
    }

    private static FairByEar three() {
        FairByEar x = new FairByEar();
        x.tunnel(0, 1, 5);
        x.tunnel(1, 2, 7);
        x.wall(2, 9);
        x.person(2, 30, 4);
        x.person(2, 6, 0);
        x.person(5, 2, 1);
        return x;
    }

    /** The values of three: LOAD 4, 0, 1; PURSE 30, 6, 2; FAR 12, 12, 999; WALL 9, 9, 0; there are 2, 2, 1. */
    private static void value(String what, String text, long of0, long of1, long of2) {
        FairByEar x = three();
        Check.due("rule \"" + text + "\"", Check.rule(x, text), 0);
        x.first(0, 1);
        Check.row(x, what + ", of 0 and 1 by \"" + text + "\"", of0, of1);
        x.first(2, 0);
        Check.row(x, what + ", of 2 and 0 by \"" + text + "\"", of2, of0);
    }

    private static void bad(String text, int p) {
        Check.due("rule \"" + text + "\"", Check.rule(three(), text), -1 - p);
    }

    private static void orAndAnd() {
        Check.terms("EXPRESSION: | binds least, then &,");
        value("and", "l&u", 1, 0, 1);
        value("or", "l|u", 1, 1, 1);
        value("or", "l|n", 1, 1, 1);
        value("or", "l|0", 1, 0, 1);
        value("& ahead of |", "n&l|n", 0, 1, 1);
        value("& ahead of |", "n|l&n", 0, 1, 1);
        value("& ahead of |", "1|0&0", 1, 1, 1);
        value("& ahead of |", "0&0|1", 1, 1, 1);
        value("not so in ( )", "0&(0|1)", 0, 0, 0);
        value("not so in ( )", "(1|0)&0", 0, 0, 0);
        value("= ahead of &", "2&1=1", 1, 1, 1);
        value("= ahead of &", "2=2&1", 1, 1, 1);
        value("= ahead of |", "2|0=1", 1, 1, 1);
        value("+ ahead of |", "0|1+1=2", 1, 1, 1);
    }

    private static void comparing() {
        Check.terms("then < > = (two; 1 or 0; not one behind the other),");
        value("<", "l<u", 1, 1, 1);
        value("< of equal ones", "l<4", 0, 1, 1);
        value("> of equal ones", "l>4", 0, 0, 0);
        value(">", "l>3", 1, 0, 0);
        value(">", "4>l", 0, 1, 1);
        value("=", "l=4", 1, 0, 0);
        value("+ ahead of =", "l+1=5", 1, 0, 0);
        value("+ ahead of =", "5=l+1", 1, 0, 0);
        value("* ahead of <", "3*l<12", 0, 1, 1);
        value("below 0", "-5<-4", 1, 1, 1);
        value("of what is 1 or 0", "(l<u)<2", 1, 1, 1);
        value("on both sides of &", "l<u&u<31", 1, 1, 1);
        value("on both sides of |", "l=4|l=0", 1, 1, 0);
        value("in ( ) on both sides", "(l<1)=(u>9)", 0, 0, 1);
        value("in ( ) in ( )", "l<(u<(n<1))", 0, 0, 0);
        for (char one : "<>=".toCharArray()) {
            for (char other : "<>=".toCharArray()) {
                bad("l" + one + "u" + other + "n", 3);
                bad("l" + one + "u+1" + other + "n", 5);
                bad("l" + one + "-u*2" + other + "n", 6);
                bad("(l" + one + "u" + other + "n)", 4);
                bad("l" + one + "(u" + other + "n)" + one + "1", 7);
                bad("l&u" + one + "n" + other + "1", 5);
                bad("l" + one + "u&u" + one + "n" + other + "1", 7);
            }
        }
        bad("l<", 2);
        bad("<l", 0);
        bad("l<=u", 2);
    }

    private static void plusAndMinus() {
        Check.terms("then + - (from the left),");
        value("from the left", "100-l-u", 66, 94, 97);
        value("from the left", "100-l+u", 126, 106, 101);
        value("not so in ( )", "100-(l-u)", 126, 106, 101);
        value("* ahead of +", "2+l*u", 122, 2, 4);
        value("* ahead of -", "l*u-2", 118, -2, 0);
        value("not so in ( )", "(2+l)*u", 180, 12, 6);
        bad("+l", 0);
        bad("l+*u", 2);
        bad("l++u", 2);
    }

    private static void times() {
        Check.terms("then * (from the left),");
        value("three", "2*3*l", 24, 0, 6);
        value("- ahead of *", "2*-l*3", -24, 0, -6);
        value("! ahead of *", "!l*5", 0, 5, 0);
        bad("*l", 0);
        bad("l**u", 2);
    }

    private static void aheadOfAThing() {
        Check.terms("then ! and - ahead of a thing (any many);");
        value("!", "!l", 0, 1, 0);
        value("!!", "!!u", 1, 1, 1);
        value("-", "-l", -4, 0, -1);
        value("--", "--l", 4, 0, 1);
        value("-!", "-!l", 0, -1, 0);
        value("!-", "!-l", 0, 1, 0);
        value("! binds more than +", "!l+5", 5, 6, 5);
        value("! ahead of ( )", "!(l+5)", 0, 0, 0);
        value("- binds more than +", "-l+u", 26, 6, 1);
        value("- behind -", "l--u", 34, 6, 3);
        value("- behind *", "l*-u", -120, 0, -2);
        value("- behind <", "l<-u", 0, 0, 0);
        value("ahead of a number", "-007", -7, -7, -7);
        value("39 of them", "-".repeat(39) + "l", -4, 0, -1);
        value("39 of them", "!".repeat(39) + "l", 0, 1, 0);
        bad("l!", 1);
        bad("l-!", 3);
        bad("!)", 1);
    }

    private static void numbers() {
        Check.terms("things: a NUMBER of 1 to 3 digits,");
        value("one", "7", 7, 7, 7);
        value("two", "70", 70, 70, 70);
        value("three", "789", 789, 789, 789);
        value("the most", "999", 999, 999, 999);
        value("0 ahead", "007", 7, 7, 7);
        value("none", "000", 0, 0, 0);
        value("each its own", "123+456", 579, 579, 579);
        bad("1234", 3);
        bad("0000", 3);
        bad("1+1234", 5);
        bad("l1", 1);
        bad("1l", 1);
        bad("(1)2", 3);
        bad("1*l2", 3);
        bad("12(", 2);
        for (char digit = '0'; digit <= '9'; digit++) {
            long v = digit - '0';
            value("digit", String.valueOf(digit), v, v, v);
            value("digits", "1" + digit, 10 + v, 10 + v, 10 + v);
        }
    }

    private static void inParentheses() {
        Check.terms("an EXPRESSION in ( ) (at most 5 in one another),");
        value("five", "(((((l)))))", 4, 0, 1);
        value("five twice", "(((((l)))))+(((((u)))))", 34, 6, 3);
        value("six, not in one another", "(l)+(l)+(l)+(l)+(l)+(l)", 24, 0, 6);
        value("not at once", "((((1+(l)))))", 5, 1, 2);
        bad("((((((l))))))", 5);
        bad("(((((l+(u))))))", 7);
        bad("(((((l)))))+((((((l", 17);
        bad("!(-(!(-(!(-(l))))))", 11);
        value("five, each behind a sign ahead", "!(-(!(-(!(l)))))", 0, 1, 0);
        bad("()", 1);
        bad(")", 0);
        bad("l)", 1);
        bad("(l))", 3);
        bad("(l)(", 3);
        bad("(l)l", 3);
        bad("(l)1", 3);
        bad("(((((l", 6);
    }

    private static void signs() {
        Check.terms("a SIGN: l LOAD, u PURSE, n the number of one, f FAR from PLACE 0 (where one is), w WALL there, "
            + "k how many of PEOPLE are there (one, too).");
        value("LOAD", "l", 4, 0, 1);
        value("PURSE", "u", 30, 6, 2);
        value("number", "n", 0, 1, 2);
        value("FAR, without a way 999", "f", 12, 12, 999);
        value("WALL", "w", 9, 9, 0);
        value("PEOPLE there", "k", 2, 2, 1);
        FairByEar x = three();
        Check.rule(x, "f*100+w*10+k");
        x.walk(0, 0);
        x.first(0, 1);
        Check.row(x, "where one is now", 1, 1291);
        x.wall(0, 5);
        x.walk(1, 0);
        x.first(0, 1);
        Check.row(x, "where one is now", 52, 52);
        bad("L", 0);
        bad("x", 0);
    }

    private static void asInts() {
        Check.terms("As ints; | & ! give 1 or 0.");
        int round = 999 * 999 * 999 * 999;
        value("they go round", "999*999*999*999", round, round, round);
        int below = -999 * 999 * 999 * 3;
        value("they go round", "-999*999*999*3", below, below, below);
        value("|", "5|0", 1, 1, 1);
        value("|", "0|7", 1, 1, 1);
        value("|", "0|0", 0, 0, 0);
        value("| below 0", "-1|0", 1, 1, 1);
        value("&", "5&6", 1, 1, 1);
        value("&", "1&2", 1, 1, 1);
        value("&", "5&0", 0, 0, 0);
        value("& below 0", "-1&-2", 1, 1, 1);
        value("!", "!5", 0, 0, 0);
        value("!", "!0", 1, 1, 1);
        value("! below 0", "!-3", 0, 0, 0);
    }

    private static void theRow() {
        Check.terms("ROW: numbers told last by a call that says so.");
        FairByEar x = Fairs.people(1, 2, 3);
        Check.row(x, "none was told");
        x.order();
        Check.row(x, "order", 0, 1, 2);
        x.loudest();
        Check.row(x, "a shorter one takes its place", 180, 1);
        x.order();
        x.far(0, 1);
        x.tunnel(0, 1, 1);
        x.loud(0);
        x.lasts();
        x.settles();
        x.undo();
        x.gas(0, 5);
        Check.row(x, "calls that do not say so leave it", 0, 1, 2);
        x.rounds(0);
        Check.row(x, "an empty one takes its place, too");
    }

    /** Odds of 0 are never told, as the greatest of all is told alone. */
    private static void fractions() {
        Check.terms("Fractions are told in lowest terms, upper and lower number (0 by 1).");
        FairByEar x = Fairs.people(0, 0);
        x.judge(0, 0, 0);
        Check.row(x, "36 of 36", 1, 1);
        x.person(0, 0, 0);
        x.who(0, 0, 0);
        Check.row(x, "36 of 72", 1, 2);
        x.ear(0, 9);
        x.ear(1, 6);
        x.tunnel(0, 1, 1);
        x.judge(0, 0, 0);
        Check.row(x, "81 of 81 and 54", 3, 5);
    }

    private static void comparedRows() {
        Check.terms("Rows are compared from the first number on.");
        FairByEar x = new FairByEar();
        x.tunnel(0, 1, 1);
        x.heard(0, 60);
        Check.due("1 at 0, or 2 at 1", x.crowds(2, 0), 2);
        Check.row(x, "fewer at the first place come first", 0, 2);
        x.tunnel(1, 2, 1);
        Check.due("3, 4, 2 and 1 with none at 0, and 3", x.crowds(3, 30), 13);
        Check.row(x, "fewer at the first place come first", 0, 0, 2);
    }

    private static void refusedCalls() {
        Check.terms("Refused calls answer NONE, or false, and change nothing but THE TEXT,");
        Check.due("NONE", FairByEar.NONE, -1);
        Still.refused(Fairs::full, "tunnel", 0, 1, 1);
        Still.refused(Fairs::full, "person", 0, 0, 0);
        Still.refused(Fairs::full, "good", 1);
        Still.refused(Fairs::full, "test", 1);
        Still.refused(Fairs::full, "item", 0, 0, 0);
        Still.refused(Fairs::full, "counted", 0, 0, 0);
        Still.refused(Fairs::full, "been", 0, 0, 0, 0);
        Still.refused(Fairs::full, "clink", 0, 0, 1);
        Still.refused(Fairs::full, "heard", 0, 0);
        Still.refused(Fairs::full, "sign", 0);
        Still.still(Fairs::full, "false", "end", 61);
    }

    private static void theTextIsEmptied() {
        Check.terms("which a call that reads it empties.");
        FairByEar x = Fairs.people(5, 9);
        Check.rule(x, "u");
        Check.text(x, "zzz");
        Check.due("refused with NONE itself", x.rule(), -1);
        Check.due("the text is empty", x.count(9), 0);
        x.first(0, 1);
        Check.row(x, "and nothing else changed", 5, 9);
        Check.text(x, "u+u");
        x.end(-1);
        x.end(4);
        Check.due("other calls leave it", x.count(9), 3);
        x.rule();
        Check.due("a call that takes it empties it, too", x.count(9), 0);
        x.first(0, 1);
        Check.row(x, "taken", 10, 18);
    }
}
