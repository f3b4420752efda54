import java.util.ArrayList;
import java.util.List;
import java.util.function.Supplier;

/** Fairs to begin a test with, and all that can be asked of one. */
final class Fairs {
    private Fairs() {
    }

    /** So many of PEOPLE at PLACE 0, with such PURSES. */
    static FairByEar people(int... purses) {
        FairByEar x = new FairByEar();
        for (int purse : purses) {
            x.person(0, purse, 0);
        }
        return x;
    }

    /** So many of PEOPLE at PLACE 0 with PURSES of 500, and GOODS of OFTEN 1. */
    static FairByEar market(int people, int goods) {
        FairByEar x = new FairByEar();
        for (int i = 0; i < people; i++) {
            x.person(0, 500, 0);
        }
        for (int i = 0; i < goods; i++) {
            x.good(1);
        }
        return x;
    }

    /** So many GOODS of OFTEN 1, and TESTS of such COSTS. */
    static FairByEar goods(int goods, int... costs) {
        FairByEar x = new FairByEar();
        for (int i = 0; i < goods; i++) {
            x.good(1);
        }
        for (int cost : costs) {
            x.test(cost);
        }
        return x;
    }

    /** ANSWERS of GOODS 0, 1, .. to a TEST, a digit for each. */
    static void answers(FairByEar x, int test, String digits) {
        for (int i = 0; i < digits.length(); i++) {
            x.answer(i, test, digits.charAt(i) - '0');
        }
    }

    /** Some of everything, nothing as at first and nothing full: 4 of PEOPLE, 3 GOODS, 2 TESTS, 3 ITEMS. */
    static FairByEar some() {
        FairByEar x = new FairByEar();
        x.tunnel(0, 1, 4);
        x.tunnel(1, 2, 7);
        x.wall(1, 3);
        x.wall(2, 8);
        int[][] people = {{0, 100, 2}, {1, 60, 5}, {2, 700, 9}, {1, 30, 1}};
        for (int[] one : people) {
            x.person(one[0], one[1], one[2]);
        }
        for (int often : new int[] {3, 1, 2}) {
            x.good(often);
        }
        x.test(2);
        x.test(5);
        answers(x, 0, "110");
        answers(x, 1, "079");
        for (int i = 0; i < 12; i++) {
            x.want(i / 3, i % 3, 4 + 5 * i % 17);
        }
        x.item(0, 0, 10);
        x.item(1, 1, 20);
        x.item(2, 2, 5);
        x.wind(3);
        x.rounds(2);
        x.buy(2, 1);
        watch(x);
        for (int what = 0; what < 4; what++) {
            x.gas(what, 40 + what);
            x.ear(what, 5 - what);
        }
        Check.rule(x, "l*3-u");
        Check.text(x, "k+l");
        x.sound(1, 0);
        return x;
    }

    private static void watch(FairByEar x) {
        x.counted(0, 10, 20);
        x.counted(0, 30, 15);
        x.counted(9, 5, 7);
        x.been(0, 0, 0, 12);
        x.been(1, 0, 30, 40);
        x.clink(0, 6, 10);
        x.clink(0, 30, 20);
        x.heard(0, 70);
        x.heard(1, 40);
    }

    /** As many of everything as there can be. */
    static FairByEar full() {
        FairByEar x = new FairByEar();
        for (int i = 0; i < 16; i++) {
            x.tunnel(i % 9, i % 9 + 1, 20 - i);
        }
        for (int i = 0; i < 8; i++) {
            x.person(i, 100 * i + 99, i);
        }
        for (int i = 0; i < 10; i++) {
            x.good(1 + i % 9);
        }
        for (int i = 0; i < 6; i++) {
            x.test(1 + i);
            x.sheet(i, 2, 10, i, i - 2);
        }
        for (int i = 0; i < 12; i++) {
            x.item(i % 10, i % 8, 90 - i);
        }
        for (int i = 0; i < 16; i++) {
            x.counted(i % 10, 20 + i, 40 - i);
        }
        for (int i = 0; i < 20; i++) {
            x.been(i % 8, i % 10, i, 10 + 2 * i);
        }
        for (int i = 0; i < 6; i++) {
            x.clink(i, 12 + i, 30 + i);
            x.heard(i, 100 + i);
        }
        Check.text(x, "l+u*n-f+w*k-".repeat(5));
        x.loudest();
        return x;
    }

    /** Answers of all calls that tell what a fair keeps; it is made twice, as no object is used for over 512 calls. */
    static List<String> asked(Supplier<FairByEar> made) {
        List<String> said = new ArrayList<>();
        askKept(made.get(), said);
        askTrade(made.get(), said);
        return said;
    }

    private static void say(List<String> said, String call, long v) {
        said.add(call + " = " + v);
    }

    private static void sayRow(List<String> said, String call, long v, FairByEar x) {
        StringBuilder all = new StringBuilder(call + " = " + v + ", ROW");
        int numbers = x.count(8);
        for (int i = 0; i < numbers; i++) {
            all.append(' ').append(x.row(i));
        }
        said.add(all.toString());
    }

    private static void askKept(FairByEar x, List<String> said) {
        sayRow(said, "as told last", 0, x);
        for (int what = 0; what < 10; what++) {
            say(said, "count " + what, x.count(what));
        }
        for (int i = 0; i < 3 * x.count(1); i++) {
            say(said, "of " + i / 3 + " " + i % 3, x.of(i / 3, i % 3));
        }
        for (int i = 0; i < 100; i++) {
            if (i / 10 < i % 10) {
                say(said, "far " + i, x.far(i / 10, i % 10));
            }
        }
        for (int place = 0; place < 10; place++) {
            say(said, "wall " + place, x.wall(place, 0));
        }
        int goods = x.count(2);
        sayRow(said, "tree", x.tree((1 << goods) - 1), x);
        sayRow(said, "ban", x.ban((1 << goods) - 1, 0), x);
        for (int i = 0; i < goods * x.count(3); i++) {
            say(said, "answer " + i, x.answer(i % goods, i / goods, 0));
        }
        askRule("by THE RULE", x, said);
        say(said, "rule", x.rule());
        askRule("by THE TEXT", x, said);
    }

    private static void askRule(String rule, FairByEar x, List<String> said) {
        for (int other = 1; other < x.count(1); other++) {
            sayRow(said, rule + ", first " + other, x.first(0, other), x);
        }
    }

    private static void askTrade(FairByEar x, List<String> said) {
        int items = x.count(4);
        for (int i = 0; i < 4 * items; i++) {
            say(said, "thing " + i / 4 + " " + i % 4, x.thing(i / 4, i % 4));
        }
        say(said, "settles", x.settles());
        askWatch(x, said);
        for (int round = 0; round < 3; round++) {
            sayRow(said, "rounds", x.rounds(1), x);
            for (int item = 0; item < items; item++) {
                say(said, "price " + item, x.thing(item, 2));
            }
        }
        for (int sale = x.count(6); sale >= 0; sale--) {
            say(said, "undo", x.undo());
            say(said, "sum of PURSES", x.count(7));
        }
        int goods = x.count(2);
        for (int i = 0; i < goods * x.count(1); i++) {
            say(said, "want " + i, x.want(i / goods, i % goods, 0));
        }
        say(said, "wind", x.wind(1));
        for (int what = 0; what < 4; what++) {
            say(said, "gas " + what, x.gas(what, 1));
            say(said, "ear " + what, x.ear(what, 1));
        }
    }

    private static void askWatch(FairByEar x, List<String> said) {
        for (int place = 0; place < 10; place++) {
            int thefts = x.missing(place);
            sayRow(said, "missing " + place, thefts, x);
            for (int k = 0; k < thefts; k++) {
                say(said, "suspects " + place + " " + k, x.suspects(place, k));
            }
        }
        sayRow(said, "gang", x.gang(), x);
        sayRow(said, "hands", x.hands(), x);
        sayRow(said, "crowds", x.crowds(3, 99), x);
        sayRow(said, "leave", x.leave(), x);
        say(said, "lasts", x.lasts());
        say(said, "counts", x.counted(0, 0, 0));
        say(said, "stays", x.been(0, 0, 0, 0));
        say(said, "clinks", x.clink(0, 0, 1));
        say(said, "numbers heard", x.heard(0, 0));
    }
}
