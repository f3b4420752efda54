/** Promises 19 to 23: rights of way. */
public final class WayTest {
    public static void main(String[] args) {
        theText();
        whatCannotStand();
        longTexts();
        values();
        failedRulesStay();
        firstAndOrder();
        Check.done();
    }

    private static void theText() {
        FairByEar x = new FairByEar();
        for (int i = 1; i <= 15; i++) {
            Check.due("sign", x.sign(0x6c6c6c6c), 4 * i);
        }
        Check.due("more than 60", x.sign(0), -1);
        Check.due("60", x.count(9), 60);
        Check.due("61", x.end(61), false);
        Check.due("-1", x.end(-1), false);
        Check.due("60", x.end(60), true);
        Check.due("57", x.end(57), true);
        Check.due("58", x.end(58), false);
        Check.due("57 and 4", x.sign(0), -1);
        Check.due("57", x.count(9), 57);
        Check.due("0", x.end(0), true);
        Check.due("empty", x.count(9), 0);
        Check.due("the highest byte first", x.sign(('l' << 24) | ('+' << 16) | ('z' << 8) | 255), 4);
        Check.due("its third can't stand there", x.rule(), -3);
        Check.due("it was emptied", x.count(9), 0);
        Check.due("an empty one", x.rule(), 0);
    }

    private static void bad(String text, int p) {
        FairByEar x = new FairByEar();
        Check.due("rule \"" + text + "\"", Check.rule(x, text), -1 - p);
        Check.due("the text of \"" + text + "\"", x.count(9), 0);
    }

    private static void fine(String text) {
        Check.due("rule \"" + text + "\"", Check.rule(new FairByEar(), text), 0);
    }

    private static void whatCannotStand() {
        bad("z", 0);
        bad(" l", 0);
        bad("L", 0);
        bad("~l", 0);
        bad("l ", 1);
        bad("l~", 1);
        bad("l!", 1);
        bad("lu", 1);
        bad("l(", 1);
        bad("12u", 2);
        bad("l1", 1);
        bad("(l)1", 3);
        bad("(1)2", 3);
        bad("1*l2", 3);
        bad("(l)(", 3);
        bad("(l)l", 3);
        bad("1234", 3);
        bad("1+1234", 5);
        bad("()", 1);
        bad(")", 0);
        bad("l)", 1);
        bad("(l))", 3);
        bad("+l", 0);
        bad("*l", 0);
        bad("l+*u", 2);
        bad("l<u<n", 3);
        bad("l<u=n", 3);
        bad("l=u>n", 3);
        bad("l<u+1<n", 5);
        bad("l<u*1>n", 5);
        bad("l<(u<n)<1", 7);
        bad("(l<u<n)", 4);
        bad("l&u<n<1", 5);
        bad("l\u0000", 1);
        bad("l\u00ff", 1);
        bad("-", 1);
        bad("!", 1);
        bad("l-", 2);
        bad("(", 1);
        bad("(l", 2);
        bad("((l)", 4);
        bad("((((((l))))))", 5);
        bad("(((((l)))))+((((((l", 17);
        fine("(((((l)))))+(((((u)))))");
        fine("l<u&u<n|n=f");
        fine("(l<u)<n");
        fine("(l<u)+(n<f)");
        fine("(l<u|n<f)&(n<f)");
        fine("l<(u<(n<1))");
        fine("!!--!-l");
        fine("l--u");
        fine("l*-u");
        fine("l<-u");
        fine("000");
        fine("999*999*999*999");
    }

    private static void longTexts() {
        String forty = "l+u+n+f+w+k+l+u+n+f+w+k+l+u+n+f+w+k+l+23";
        Check.due("40 signs", forty.length(), 40);
        fine(forty);
        bad(forty + "4", 40);
        bad(forty + "+", 40);
        bad(forty + "z+l", 40);
        bad(forty.substring(0, 39) + "+", 40);
        bad(forty.substring(0, 39) + "+l", 40);
        bad(forty.substring(0, 39) + "z+l", 39);
        bad(forty.substring(0, 10) + "z" + forty.substring(0, 40), 10);
        bad("(" + forty.substring(0, 39), 40);
        bad("(" + forty + ")", 40);
    }

    private static FairByEar three() {
        FairByEar x = new FairByEar();
        x.tunnel(0, 1, 5);
        x.tunnel(1, 2, 7);
        x.wall(2, 9);
        x.person(2, 30, 4);
        x.person(2, 6, 0);
        x.person(5, 2, 1);
        return x;
    }

    private static void value(FairByEar x, String text, long of0, long of1, long of2) {
        Check.due("rule \"" + text + "\"", Check.rule(x, text), 0);
        x.first(0, 1);
        Check.row(x, "of 0 and 1 by \"" + text + "\"", of0, of1);
        x.first(2, 0);
        Check.row(x, "of 2 and 0 by \"" + text + "\"", of2, of0);
    }

    private static void values() {
        FairByEar x = three();
        value(x, "l", 4, 0, 1);
        value(x, "u", 30, 6, 2);
        value(x, "n", 0, 1, 2);
        value(x, "f", 12, 12, 999);
        value(x, "w", 9, 9, 0);
        value(x, "k", 2, 2, 1);
        value(x, "007", 7, 7, 7);
        value(x, "100-l-u", 66, 94, 97);
        value(x, "100-(l-u)", 126, 106, 101);
        value(x, "2+l*u", 122, 2, 4);
        value(x, "(2+l)*u", 180, 12, 6);
        value(x, "-l*u", -120, 0, -2);
        value(x, "l--u", 34, 6, 3);
        value(x, "!l", 0, 1, 0);
        value(x, "!!u", 1, 1, 1);
        value(x, "-!l", 0, -1, 0);
        value(x, "!-l", 0, 1, 0);
        value(x, "!l+5", 5, 6, 5);
        value(x, "!(l+5)", 0, 0, 0);
        value(x, "l<u", 1, 1, 1);
        value(x, "l>3", 1, 0, 0);
        value(x, "l=4", 1, 0, 0);
        value(x, "l<4", 0, 1, 1);
        value(x, "l>0", 1, 0, 1);
        value(x, "4>l", 0, 1, 1);
        value(x, "l+1=5", 1, 0, 0);
        value(x, "1+l=5", 1, 0, 0);
        value(x, "l&u", 1, 0, 1);
        value(x, "l|u", 1, 1, 1);
        value(x, "n&l|n", 0, 1, 1);
        value(x, "n|l&n", 0, 1, 1);
        value(x, "1|0&0", 1, 1, 1);
        value(x, "0&0|1", 1, 1, 1);
        value(x, "0&(0|1)", 0, 0, 0);
        value(x, "2&1=1", 1, 1, 1);
        value(x, "5|0", 1, 1, 1);
        int round = 999 * 999 * 999 * 999;
        value(x, "999*999*999*999", round, round, round);
        value(x, "", 0, 0, 0);
    }

    private static void failedRulesStay() {
        FairByEar x = three();
        String[] left = {"((", "(1", "12", "l<", "(l<u", "!", "1+2*", "((l<u)<", "l<u<"};
        for (String text : left) {
            Check.rule(x, text);
            value(x, "7", 7, 7, 7);
            Check.rule(x, text);
            Check.due("behind \"" + text + "\" a )", Check.rule(x, ")"), -1);
            Check.rule(x, text);
            value(x, "l<u", 1, 1, 1);
        }
        value(x, "l*2", 8, 0, 2);
        Check.due("a bad one", Check.rule(x, "u+"), -3);
        x.first(0, 1);
        Check.row(x, "the one ahead of it stays", 8, 0);
        Check.due("too long a one", Check.rule(x, "1+1+1+1+1+1+1+1+1+1+1+1+1+1+1+1+1+1+1+1+1"), -41);
        x.first(0, 1);
        Check.row(x, "it stays yet", 8, 0);
        x.walk(0, 0);
        x.end(0);
        x.rule();
        x.first(0, 1);
        Check.row(x, "none", 0, 0);
    }

    private static void firstAndOrder() {
        FairByEar x = new FairByEar();
        Check.due("nobody", x.order(), 0);
        Check.row(x, "nobody");
        x.person(0, 5, 0);
        Check.due("one", x.order(), 0);
        Check.row(x, "one", 0);
        x.person(0, 7, 0);
        x.person(0, 5, 0);
        x.person(0, 7, 0);
        x.person(0, 7, 0);
        Check.due("without a rule", x.first(3, 2), 2);
        Check.due("all pairs", x.order(), 10);
        Check.row(x, "all pairs", 0, 1, 2, 3, 4);
        Check.rule(x, "u");
        Check.due("greater", x.first(0, 1), 1);
        Check.due("greater, back", x.first(1, 0), 1);
        Check.row(x, "as asked", 7, 5);
        Check.due("equal", x.first(4, 3), 3);
        Check.due("equal pairs", x.order(), 1 + 3);
        Check.row(x, "equal pairs", 1, 3, 4, 0, 2);
        Check.due("one and itself", x.first(1, 1), -1);
        Check.due("person 5", x.first(1, 5), -1);
        Check.due("person -1", x.first(-1, 1), -1);
        Check.row(x, "as it was", 1, 3, 4, 0, 2);
        Check.rule(x, "-u");
        x.order();
        Check.row(x, "below 0", 0, 2, 1, 3, 4);
    }
}
