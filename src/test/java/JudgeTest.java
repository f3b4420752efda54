/** Promises 46 to 50: a judge, a lamp. */
public final class JudgeTest {
    public static void main(String[] args) {
        ears();
        sounds();
        judged();
        clapped();
        lamps();
        Check.done();
    }

    private static void ears() {
        FairByEar x = new FairByEar();
        int[] first = {6, 3, 1, 0};
        for (int d = 0; d < 4; d++) {
            Check.due("10", x.ear(d, 10), -1);
            Check.due("-1", x.ear(d, -1), -1);
            Check.due("at first", x.ear(d, 9), first[d]);
        }
        Check.due("d 4", x.ear(4, 1), -1);
        Check.due("d -1", x.ear(-1, 1), -1);
        for (int d = 3; d >= 1; d--) {
            Check.due("to 0", x.ear(d, 0), 9);
        }
        Check.due("all four would be 0", x.ear(0, 0), -1);
        Check.due("it stayed 9", x.ear(0, 1), 9);
        Check.due("as much as all others", x.ear(3, 1), 0);
        Check.due("another one is left", x.ear(0, 0), 1);
        Check.due("the last one", x.ear(3, 0), -1);
        Check.due("for another", x.ear(1, 0), 0);
    }

    private static void sounds() {
        FairByEar x = new FairByEar();
        x.tunnel(0, 1, 5);
        x.tunnel(0, 2, 5);
        x.tunnel(0, 3, 5);
        x.tunnel(3, 4, 4);
        x.wall(1, 3);
        x.wall(3, 3);
        x.wall(0, 3);
        Check.due("two alike", x.sound(1, 0), 0);
        Check.row(x, "two alike", 5, 6, 2 + 8);
        Check.due("another wall", x.sound(2, 0), 0);
        Check.row(x, "another wall", 5, 0, 4);
        Check.due("where one is", x.sound(0, 0), 0);
        Check.row(x, "where one is", 0, 6, 1);
        Check.due("far", x.sound(4, 1), 0);
        Check.row(x, "far", 14, 0, 16);
        Check.due("no way", x.sound(5, 0), -2);
        Check.row(x, "as it was", 14, 0, 16);
        Check.due("place 10", x.sound(10, 0), -1);
        Check.due("place -1", x.sound(0, -1), -1);
        Check.row(x, "as it was", 14, 0, 16);
        Check.due("of those without a way", x.sound(7, 7), 0);
        Check.row(x, "of those without a way", 0, 0, 128);
    }

    private static FairByEar line() {
        FairByEar x = new FairByEar();
        x.tunnel(0, 1, 1);
        x.tunnel(1, 2, 1);
        x.tunnel(2, 3, 1);
        x.person(0, 0, 0);
        return x;
    }

    private static void judged() {
        FairByEar x = line();
        Check.due("late 2", x.judge(0, 2, 0), 2);
        Check.row(x, "6 of 1, 3, 6, 3", 6, 13);
        Check.due("late 1", x.judge(0, 1, 0), 1);
        Check.row(x, "6 of 3, 6, 3, 1", 6, 13);
        x.wall(2, 1);
        Check.due("back 2 off by 2", x.judge(0, 2, 0), 1);
        Check.row(x, "of equal ones the first: 18 of 6, 18, 6, 18", 3, 8);
        Check.due("back 2", x.judge(0, 2, 2), 2);
        Check.row(x, "36 of 1, 3, 36, 3", 36, 43);
        Check.due("1 by 1", x.judge(0, 5, 2), 3);
        Check.row(x, "it alone, little as it is", 1, 1);
        x.ear(3, 9);
        Check.due("off by 3", x.judge(0, 6, 0), 3);
        Check.row(x, "off by 3", 1, 1);
        Check.due("off by 4", x.judge(0, 7, 0), -2);
        Check.due("back off by 4", x.judge(0, 2, 6), -2);
        Check.row(x, "as it was", 1, 1);
        Check.due("late 1000", x.judge(0, 1000, 0), -1);
        Check.due("late -1", x.judge(0, -1, 0), -1);
        Check.due("back 1000", x.judge(0, 0, 1000), -1);
        Check.due("back -1", x.judge(0, 0, -1), -1);
        Check.due("person 1", x.judge(1, 0, 0), -1);
        Check.due("person -1", x.judge(-1, 0, 0), -1);
        Check.due("late 999", x.judge(0, 999, 0), -2);
        Check.due("back 999", x.judge(0, 0, 999), -2);
    }

    private static void clapped() {
        FairByEar x = line();
        Check.due("nobody else", x.who(0, 0, 0), -2);
        x.person(2, 0, 0);
        x.person(0, 0, 0);
        x.person(2, 0, 0);
        x.person(9, 0, 0);
        Check.due("two at one place: the first", x.who(0, 2, 0), 1);
        Check.row(x, "36 of 36, 6, 36", 6, 13);
        Check.due("the one where one is", x.who(0, 0, 0), 2);
        Check.row(x, "36 of 6, 36, 6", 3, 4);
        Check.due("not itself", x.who(2, 0, 0), 0);
        Check.due("one without a way", x.who(0, 999, 0), -2);
        Check.row(x, "as it was", 3, 4);
        x.wall(2, 2);
        Check.due("back 4", x.who(0, 2, 4), 1);
        Check.row(x, "both of there", 1, 2);
        Check.due("late 1000", x.who(0, 1000, 0), -1);
        Check.due("back -1", x.who(0, 0, -1), -1);
        Check.due("person 5", x.who(5, 0, 0), -1);
        Check.due("person -1", x.who(-1, 0, 0), -1);
        Check.due("who has no way hears none", x.who(4, 0, 0), -2);
    }

    private static void lamps() {
        FairByEar x = new FairByEar();
        x.tunnel(0, 1, 10);
        x.tunnel(1, 2, 1);
        x.person(0, 50, 0);
        x.person(1, 60, 0);
        x.person(2, 70, 0);
        x.person(0, 80, 0);
        x.good(1);
        x.good(1);
        x.item(0, 0, 10);
        x.item(0, 2, 10);
        x.item(1, 1, 10);
        x.item(0, 1, 10);
        x.want(0, 0, 11);
        x.want(1, 0, 11);
        x.want(2, 0, 99);
        x.want(3, 0, 11);
        x.want(0, 1, 11);
        x.want(3, 1, 10);
        Check.due("10 and no farther", x.lamp(0), 1 + 2 + 8);
        Check.row(x, "the owner left out", 1 + 4 + 8, 1 + 8);
        Check.due("all", x.lamp(1), 15);
        Check.row(x, "all", 15, 1 + 2 + 8);
        x.want(1, 0, 10);
        x.want(2, 0, 0);
        x.lamp(1);
        Check.row(x, "more than their price", 15, 2 + 8);
        x.buy(0, 3);
        x.lamp(0);
        Check.row(x, "sold ones are seen, but not wanted", 13, 0);
        Check.due("far away", x.lamp(9), 0);
        Check.row(x, "far away", 0, 0);
        x.lamp(0);
        Check.due("place 10", x.lamp(10), -1);
        Check.due("place -1", x.lamp(-1), -1);
        x.gas(0, 499);
        Check.due("just below", x.lamp(0), 11);
        x.gas(0, 500);
        Check.due("no such place burns nothing", x.lamp(10), -1);
        Check.due("purses yet", x.count(7), 260);
        Check.due("fire", x.lamp(9), -2);
        Check.due("dropped", x.count(7), 0);
        Check.row(x, "as it was", 13, 0);
    }
}
