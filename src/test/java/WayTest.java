/** Promises 19 to 23: rights of way. What an EXPRESSION is, "Terms" says: see TermsTest. */
public final class WayTest {
    /** 40 signs that can be a rule. */
    private static final String FORTY = "l+u+n+f+w+k+l+u+n+f+w+k+l+u+n+f+w+k+l+23";

    public static void main(String[] args) {
        promise19Sign();
        promise19Refused();
        promise20End();
        promise20False();
        promise21Rule();
        promise21CantStandThere();
        promise21EndsTooEarly();
        promise21MoreThan40();
        promise21WhatIsLeftOfABadOne();
        promise22First();
        promise22OfEqualOnes();
        promise22Refused();
        promise23Order();
        promise23Pairs();
        Check.done(19, 23);
    }

    private static void promise19Sign() {
        Check.promise(19, "Four signs come behind THE TEXT, of v the highest byte first: how many it has.");
        FairByEar x = Fairs.people(5, 9);
        for (int i = 1; i <= 15; i++) {
            Check.due("sign", x.sign(0x6c6c6c6c), 4 * i);
            Check.due("as many", x.count(9), 4 * i);
        }
        x.end(0);
        Check.due("the highest byte first", x.sign('u' << 24 | '+' << 16 | '1' << 8 | '2'), 4);
        Check.due("it is a rule", x.rule(), 0);
        x.first(0, 1);
        Check.row(x, "u+12", 17, 21);
        x.sign('u' << 24 | '+' << 16 | 'z' << 8 | 255);
        Check.due("its third can't stand there", x.rule(), -3);
        for (int p = 0; p < 4; p++) {
            x.sign('l' << 24 | '+' << 16 | 'l' << 8 | '+');
            x.end(p);
            Check.due("behind " + p, x.sign(0xffffffff), p + 4);
            Check.due("a sign of 255 at " + p, x.rule(), -1 - p);
        }
        Check.due("below 0, too", x.sign(0x80000000), 4);
    }

    private static void promise19Refused() {
        Check.promise(19, "Refused: there would be more than 60.");
        Still.refused(Fairs::full, "sign", 0x6c6c6c6c);
        for (int signs = 57; signs <= 60; signs++) {
            Still.refused(textOf("l".repeat(signs))::made, "sign", 0);
        }
        FairByEar x = new FairByEar();
        Check.text(x, "l".repeat(56));
        Check.due("56 and 4", x.sign(0), 60);
    }

    private record Text(String signs) {
        FairByEar made() {
            FairByEar x = Fairs.some();
            Check.text(x, signs);
            return x;
        }
    }

    private static Text textOf(String signs) {
        return new Text(signs);
    }

    private static void promise20End() {
        Check.promise(20, "THE TEXT has its first n signs alone: true;");
        FairByEar x = Fairs.people(5, 9);
        Check.due("none of none", x.end(0), true);
        Check.text(x, "u+12+345");
        Check.due("all of it", x.end(8), true);
        Check.due("all of it", x.count(9), 8);
        Check.due("the first four", x.end(4), true);
        Check.due("the first four", x.count(9), 4);
        Check.due("a rule", x.rule(), 0);
        x.first(0, 1);
        Check.row(x, "u+12", 17, 21);
        Check.text(x, "u+12");
        Check.due("none", x.end(0), true);
        Check.due("none", x.count(9), 0);
        Check.text(x, "l".repeat(60));
        Check.due("60 of 60", x.end(60), true);
        Check.due("60 of 60", x.count(9), 60);
    }

    private static void promise20False() {
        Check.promise(20, "false if it has not so many, or n is below 0.");
        Check.due("one of none", new FairByEar().end(1), false);
        for (int n : new int[] {4, 5, 60, 61, -1, -3, Integer.MIN_VALUE, Integer.MAX_VALUE}) {
            Still.still(textOf("k+l")::made, "false", "end", n);
        }
        Still.still(Fairs::full, "false", "end", 61);
    }

    private static void promise21Rule() {
        Check.promise(21, "THE TEXT is THE RULE (an empty one: none): 0.");
        FairByEar x = Fairs.people(5, 9);
        Check.due("a rule", Check.rule(x, "u*2"), 0);
        Check.due("the text is read, and empty", x.count(9), 0);
        x.first(0, 1);
        Check.row(x, "by it", 10, 18);
        Check.due("an empty one", x.rule(), 0);
        x.first(0, 1);
        Check.row(x, "none", 0, 0);
        Check.due("empty from the first", new FairByEar().rule(), 0);
        Check.due("of one sign", Check.rule(x, "n"), 0);
        x.first(0, 1);
        Check.row(x, "of one sign", 0, 1);
        Check.due("of 40 signs", FORTY.length(), 40);
        Check.due("of 40 signs", Check.rule(x, FORTY), 0);
    }

    private static void bad(String text, int p) {
        FairByEar x = new FairByEar();
        Check.due("rule \"" + text + "\"", Check.rule(x, text), -1 - p);
        Check.due("the text behind \"" + text + "\"", x.count(9), 0);
    }

    private static void promise21CantStandThere() {
        Check.promise(21, "-1 - p: the sign at p can't stand there");
        for (int sign = 0; sign < 256; sign++) {
            String one = String.valueOf((char) sign);
            if ("lunfwk0123456789(!-".indexOf(sign) < 0) {
                bad(one, 0);
                bad("l+" + one, 2);
                bad("(" + one, 1);
                bad("!" + one + "l", 1);
            }
            if ("|&<>=+-*".indexOf(sign) < 0) {
                bad("l" + one, 1);
                bad("(l" + (sign == ')' ? ")" + one : one), sign == ')' ? 3 : 2);
                bad("100" + one + "l", 3);
            }
        }
        bad("l+u+n+f+ w", 8);
        bad("zz", 0);
        bad("l)))", 1);
    }

    private static void promise21EndsTooEarly() {
        Check.promise(21, "(its end, if it ends too early;");
        for (String text : "- ! l- ( (l ((l) l| l& l< 1= l>- l* l+( l+(2-!".split(" ")) {
            bad(text, text.length());
        }
        bad("!".repeat(39), 39);
        bad("!".repeat(40), 40);
        bad("(" + FORTY.substring(0, 38), 39);
        bad("(" + FORTY.substring(0, 39), 40);
    }

    private static void promise21MoreThan40() {
        Check.promise(21, "40, if it has more and the first 40 could go on or end).");
        bad(FORTY + "4", 40);
        bad(FORTY + "+", 40);
        bad(FORTY + "z+l", 40);
        bad(FORTY + "+".repeat(20), 40);
        bad(FORTY.substring(0, 39) + "+l", 40);
        bad("(" + FORTY, 40);
        bad("(" + FORTY + ")", 40);
        bad("!".repeat(41), 40);
        bad("!".repeat(40) + "l", 40);
        bad("!".repeat(60), 40);
        bad(FORTY.substring(0, 39) + "z+l", 39);
        bad(FORTY.substring(0, 10) + "z" + FORTY, 10);
        bad("z".repeat(60), 0);
    }

    /** Nothing of a text that was refused gets into the next one; THE RULE ahead of it stays. */
    private static void promise21WhatIsLeftOfABadOne() {
        Check.promise(21, "-1 - p: the sign at p can't stand there");
        FairByEar x = Fairs.people(5, 9);
        for (String text : new String[] {"((", "(1", "12z", "l<", "(l<u", "!", "1+2*", "((l<u)<", "l<u<"}) {
            Check.due("7", Check.rule(x, "7"), 0);
            Check.due("refused", Check.rule(x, text) < 0, true);
            x.first(0, 1);
            Check.row(x, "the rule ahead of \"" + text + "\" stays", 7, 7);
            Check.due("behind \"" + text + "\" a )", Check.rule(x, ")"), -1);
            Check.rule(x, text);
            Check.due("behind \"" + text + "\" another <", Check.rule(x, "u<9"), 0);
            x.first(0, 1);
            Check.row(x, "behind \"" + text + "\"", 1, 0);
        }
        for (String number : new String[] {"1", "12", "u+1", "1z"}) {
            Check.rule(x, number);
            Check.due("behind \"" + number + "\" no digit goes on", Check.rule(x, "u1"), -2);
        }
        Check.rule(x, "u<9");
        Check.rule(x, FORTY + "+l");
        x.first(0, 1);
        Check.row(x, "the rule ahead of too long a one stays", 1, 0);
    }

    private static void promise22First() {
        Check.promise(22, "Which of two unlike ones goes first: the one with the greater value by THE RULE;");
        FairByEar x = Fairs.people(5, 7, 0, 0, 0, 0, 0, 999);
        Check.rule(x, "u");
        Check.due("greater", x.first(0, 1), 1);
        Check.due("greater, back", x.first(1, 0), 1);
        Check.due("the last one", x.first(0, 7), 7);
        Check.rule(x, "-u");
        Check.due("below 0", x.first(0, 1), 0);
        Check.rule(x, "0-999*999*(u*999)*3");
        int of0 = -999 * 999 * (5 * 999) * 3;
        int of1 = -999 * 999 * (7 * 999) * 3;
        Check.due("as ints, which go round", x.first(0, 1), of0 > of1 ? 0 : 1);
        Check.promise(22, "the ROW: both values.");
        Check.rule(x, "u-6");
        x.first(0, 1);
        Check.row(x, "as asked", -1, 1);
        x.first(1, 0);
        Check.row(x, "as asked", 1, -1);
        Check.rule(x, "-999*999*999-999*999*999-999*999*999");
        x.first(0, 1);
        int round = -999 * 999 * 999 * 3;
        Check.row(x, "as ints", round, round);
    }

    private static void promise22OfEqualOnes() {
        Check.promise(22, "of equal ones the lesser number;");
        FairByEar x = Fairs.people(5, 7, 5);
        Check.due("without a rule", x.first(2, 1), 1);
        Check.due("without a rule", x.first(1, 2), 1);
        Check.rule(x, "u");
        Check.due("equal", x.first(2, 0), 0);
        Check.due("equal", x.first(0, 2), 0);
    }

    private static void promise22Refused() {
        Check.promise(22, "NONE: others.");
        Still.refusedBeyond("first", new int[] {1, 2}, Still.ends(0, 3), Still.ends(0, 3));
        for (int person = 0; person < 4; person++) {
            Still.refused(Fairs::some, "first", person, person);
        }
        Still.refused(FairByEar::new, "first", 0, 1);
        Still.refused(() -> Fairs.people(5), "first", 0, 1);
        Still.refused(Fairs::full, "first", 8, 0);
    }

    private static void promise23Order() {
        Check.promise(23, "All PEOPLE in the order in which they go first: the ROW: they.");
        FairByEar x = new FairByEar();
        x.order();
        Check.row(x, "nobody");
        x.person(0, 5, 0);
        x.order();
        Check.row(x, "one", 0);
        for (int purse : new int[] {7, 5, 7, 7}) {
            x.person(0, purse, 0);
        }
        x.order();
        Check.row(x, "without a rule by number", 0, 1, 2, 3, 4);
        Check.rule(x, "u");
        x.order();
        Check.row(x, "of equal ones the lesser number", 1, 3, 4, 0, 2);
        Check.rule(x, "-u");
        x.order();
        Check.row(x, "below 0", 0, 2, 1, 3, 4);
        x = Fairs.full();
        Check.rule(x, "u");
        x.order();
        Check.row(x, "eight", 7, 6, 5, 4, 3, 2, 1, 0);
    }

    private static void promise23Pairs() {
        Check.promise(23, "How many pairs of them have the same value.");
        Check.due("nobody", new FairByEar().order(), 0);
        Check.due("one", Fairs.people(5).order(), 0);
        Check.due("two", Fairs.people(5, 6).order(), 1);
        FairByEar x = Fairs.people(5, 7, 5, 7, 7, 1, 2, 3);
        Check.due("all eight", x.order(), 28);
        Check.rule(x, "u");
        Check.due("of two and of three", x.order(), 1 + 3);
        Check.rule(x, "n");
        Check.due("none", x.order(), 0);
    }
}
