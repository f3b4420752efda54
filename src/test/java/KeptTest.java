/** Promises 51 and 52: what is kept, and the ROW. */
public final class KeptTest {
    public static void main(String[] args) {
        FairByEar x = new FairByEar();
        x.tunnel(0, 1, 1);
        x.tunnel(0, 1, 1);
        x.person(0, 100, 0);
        x.person(0, 23, 0);
        x.person(0, 0, 0);
        for (int i = 0; i < 4; i++) {
            x.good(1);
        }
        for (int i = 0; i < 5; i++) {
            x.test(1);
        }
        for (int i = 0; i < 6; i++) {
            x.item(0, i % 2, 0);
        }
        x.buy(0, 1);
        x.buy(1, 4);
        x.order();
        x.sign(0);
        x.sign(0);
        x.end(7);
        int[] due = {2, 3, 4, 5, 6, 18, 2, 123, 3, 7};
        for (int what = 0; what < 10; what++) {
            Check.due("count(" + what + ")", x.count(what), due[what]);
        }
        Check.due("count(10)", x.count(10), -1);
        Check.due("count(-1)", x.count(-1), -1);
        Check.row(x, "order", 0, 1, 2);
        Check.none("the least", () -> x.row(Integer.MIN_VALUE));
        Check.none("the most", () -> x.row(Integer.MAX_VALUE));
        Check.due("the constant", FairByEar.NONE, -1);
        refusedCallsLeaveTheRow(x);
        callsWithoutOneLeaveTheRow(x);
        Check.done();
    }

    private static void refusedCallsLeaveTheRow(FairByEar x) {
        x.sure(0, 0);
        x.keep(0);
        x.ban(0, 0);
        x.tree(0);
        x.asks(0, 0);
        x.first(0, 0);
        x.rounds(-1);
        x.missing(-1);
        x.crowds(0, 0);
        x.sound(-1, 0);
        x.judge(-1, 0, 0);
        x.who(-1, 0, 0);
        x.lamp(-1);
        Check.row(x, "refused calls", 0, 1, 2);
    }

    private static void callsWithoutOneLeaveTheRow(FairByEar x) {
        x.keep(15);
        x.judge(0, 999, 0);
        x.who(0, 999, 0);
        x.sound(9, 0);
        x.copper(15, 5);
        x.settles();
        x.undo();
        x.lasts();
        x.loud(0);
        x.rule();
        x.suspects(0, 0);
        x.far(0, 1);
        Check.row(x, "calls without one", 0, 1, 2);
    }
}
