/** Promises 46 to 50: a judge, a lamp. */
public final class JudgeTest {
    public static void main(String[] args) {
        promise46Ear();
        promise46Refused();
        promise47Sound();
        promise47JustSo();
        promise47NoWay();
        promise48Judge();
        promise48MoreThan3();
        promise48WithAWay();
        promise48OfEqualOnes();
        promise48NoneIsLikely();
        promise49Who();
        promise49Likewise();
        promise50Fire();
        promise50Seen();
        promise50Items();
        promise50Wanted();
        promise50NoneSuch();
        Check.done(46, 50);
    }

    private static void promise46Ear() {
        Check.promise(46, "CHANCE that an ear is off by d (0 .. 3) becomes v (0 .. 9; at first 6, 3, 1, 0): what "
            + "it was.");
        FairByEar x = new FairByEar();
        int[] first = {6, 3, 1, 0};
        for (int d = 0; d < 4; d++) {
            Check.due("at first", x.ear(d, 9 - d), first[d]);
        }
        for (int d = 0; d < 4; d++) {
            Check.due("each its own", x.ear(d, 0), 9 - d);
            Check.due("it was 0", x.ear(d, 9), 0);
        }
    }

    private static void promise46Refused() {
        Check.promise(46, "Refused: others, all four would be 0.");
        Still.refusedBeyond("ear", new int[] {2, 5}, Still.ends(0, 3), Still.ends(0, 9));
        for (int d = 0; d < 4; d++) {
            int left = d;
            Still.refused(() -> onlyEar(left), "ear", left, 0);
            FairByEar x = onlyEar(left);
            Check.due("another one is 0 already", x.ear((left + 1) % 4, 0), 0);
            Check.due("the last one becomes 1", x.ear(left, 1), 5);
            x.ear((left + 1) % 4, 1);
            Check.due("another one is left", x.ear(left, 0), 1);
            Check.due("it is the last now", x.ear((left + 1) % 4, 0), -1);
        }
    }

    /** CHANCE of one d is 5, of all others 0. */
    private static FairByEar onlyEar(int d) {
        FairByEar x = Fairs.some();
        x.ear(d, 5);
        for (int other = 0; other < 4; other++) {
            if (other != d) {
                x.ear(other, 0);
            }
        }
        return x;
    }

    private static FairByEar star() {
        FairByEar x = new FairByEar();
        x.tunnel(0, 1, 5);
        x.tunnel(0, 2, 5);
        x.tunnel(0, 3, 5);
        x.tunnel(3, 4, 4);
        x.wall(1, 3);
        x.wall(3, 3);
        x.wall(0, 3);
        return x;
    }

    private static void promise47Sound() {
        Check.promise(47, "How late a clap of a PLACE is heard at another one (FAR), and given back by the WALL "
            + "of the first behind that (twice WALL): the ROW: both,");
        FairByEar x = star();
        x.wall(4, 20);
        Check.due("far", x.sound(4, 1), 0);
        Check.row(x, "14, and twice 20", 14, 40, 16);
        Check.due("back, by the other wall", x.sound(1, 4), 0);
        Check.row(x, "14, and twice 3", 14, 6, 2);
        Check.due("where one is", x.sound(0, 0), 0);
        Check.row(x, "where one is", 0, 6, 1);
        Check.due("without a wall", x.sound(2, 0), 0);
        Check.row(x, "without a wall", 5, 0, 4);
    }

    private static void promise47JustSo() {
        Check.promise(47, "PLACES (bits) from which both would be just so. 0;");
        FairByEar x = star();
        x.sound(1, 0);
        Check.row(x, "two as far with such a wall; a third has another wall", 5, 6, 2 + 8);
        x.wall(2, 3);
        x.sound(1, 0);
        Check.row(x, "three", 5, 6, 2 + 4 + 8);
        x.sound(4, 0);
        Check.row(x, "one", 9, 0, 16);
        x.tunnel(0, 9, 9);
        x.sound(4, 0);
        Check.row(x, "the last, too", 9, 0, 16 + 512);
        x.sound(7, 7);
        Check.row(x, "itself alone", 0, 0, 128);
    }

    private static void promise47NoWay() {
        Check.promise(47, "-2: no way; NONE: none such.");
        Still.still(Fairs::some, "-2", "sound", 5, 0);
        Still.still(Fairs::some, "-2", "sound", 0, 5);
        Still.still(FairByEar::new, "-2", "sound", 0, 1);
        Still.refusedBeyond("sound", new int[] {1, 2}, Still.ends(0, 9), Still.ends(0, 9));
        Check.due("none such, though alike", star().sound(10, 10), -1);
    }

    private static FairByEar line() {
        FairByEar x = new FairByEar();
        x.tunnel(0, 1, 1);
        x.tunnel(1, 2, 1);
        x.tunnel(2, 3, 1);
        x.person(0, 0, 0);
        return x;
    }

    private static void promise48Judge() {
        Check.promise(48, "Where a clap was, heard by one (at its PLACE) so late (0 .. 999), and, given back by "
            + "the WALL where it was, so late behind that (0 .. 999):");
        FairByEar x = line();
        Check.due("late 2", x.judge(0, 2, 0), 2);
        x.walk(0, 1);
        Check.due("late 2, heard at place 1", x.judge(0, 2, 0), 3);
        x.wall(0, 2);
        Check.due("late 1, back 4", x.judge(0, 1, 4), 0);
        Check.due("late 1, back 0", x.judge(0, 1, 0), 2);
        Check.due("late 0, back 0", x.judge(0, 0, 0), 1);
        Check.due("late 999", x.judge(0, 999, 0), -2);
        Check.due("back 999", x.judge(0, 0, 999), -2);
        x.wall(0, 20);
        Check.due("back 40", x.judge(0, 1, 40), 0);
        Check.promise(48, "each as likely ahead, each by CHANCE of how far late is off FAR, times that of how "
            + "far back is off twice its WALL");
        FairByEar y = line();
        y.judge(0, 2, 0);
        Check.row(y, "6 of 1, 3, 6, 3, times 6 each", 6, 13);
        y.wall(2, 1);
        y.judge(0, 2, 2);
        Check.row(y, "36 of 1, 3, 36, 3", 36, 43);
        y.judge(0, 2, 1);
        Check.row(y, "off by 1 to either side: 18 of 3, 9, 18, 9", 6, 13);
        Check.promise(48, "the PLACE of the greatest;");
        Check.due("place 2", y.judge(0, 2, 2), 2);
        Check.due("the last place", y.judge(0, 4, 0), 3);
        Check.promise(48, "the ROW: its odds as a fraction of all.");
        y.judge(0, 5, 2);
        Check.row(y, "it alone, little as it is", 1, 1);
    }

    private static void promise48MoreThan3() {
        Check.promise(48, "(more than 3: 0)");
        FairByEar x = line();
        for (int d = 0; d < 4; d++) {
            x.ear(d, 9);
        }
        Check.due("late off by 3", x.judge(0, 6, 0), 3);
        Check.row(x, "late off by 3", 1, 1);
        Check.due("late off by 4", x.judge(0, 7, 0), -2);
        Check.due("back off by 3", x.judge(0, 0, 3), 0);
        Check.row(x, "of all four", 1, 4);
        Check.due("back off by 4", x.judge(0, 0, 4), -2);
        x.wall(0, 20);
        x.wall(1, 20);
        x.wall(2, 20);
        x.wall(3, 20);
        Check.due("back off by 3 below", x.judge(0, 3, 37), 0);
        Check.due("back off by 4 below", x.judge(0, 3, 36), -2);
        Check.due("late off by 3 below", x.judge(0, 0, 40), 0);
        Check.row(x, "late off by 3 below", 1, 4);
        FairByEar y = new FairByEar();
        y.tunnel(0, 1, 4);
        y.person(0, 0, 0);
        y.ear(3, 9);
        Check.due("off by 4 below", y.judge(0, 0, 0), 0);
        Check.row(y, "off by 4 below is 0", 1, 1);
        FairByEar z = line();
        Check.due("off by 3 is 0 at first", z.judge(0, 6, 0), -2);
    }

    private static void promise48WithAWay() {
        Check.promise(48, "of PLACES with a way,");
        FairByEar x = Fairs.people(1);
        Check.due("itself alone", x.judge(0, 0, 0), 0);
        Check.row(x, "itself alone", 1, 1);
        Check.due("999 is no way", x.judge(0, 999, 0), -2);
        Check.due("nor is 998", x.judge(0, 998, 0), -2);
        x.tunnel(0, 9, 1);
        Check.due("the last place", x.judge(0, 1, 0), 9);
        Check.row(x, "36 of 36 and 18", 2, 3);
    }

    private static void promise48OfEqualOnes() {
        Check.promise(48, "of equal ones the first;");
        FairByEar x = line();
        x.wall(2, 1);
        Check.due("18 of 6, 18, 6, 18", x.judge(0, 2, 0), 1);
        Check.row(x, "18 of 6, 18, 6, 18", 3, 8);
        FairByEar y = new FairByEar();
        y.tunnel(5, 8, 7);
        y.tunnel(5, 3, 7);
        y.person(5, 0, 0);
        Check.due("3 or 8", y.judge(0, 7, 0), 3);
        Check.row(y, "3 or 8", 1, 2);
    }

    private static void promise48NoneIsLikely() {
        Check.promise(48, "-2: none is likely; NONE: others.");
        Still.still(Fairs::some, "-2", "judge", 0, 900, 0);
        Still.still(Fairs::some, "-2", "judge", 0, 0, 900);
        Still.refusedBeyond("judge", new int[] {1, 4, 0}, Still.ends(0, 3), Still.ends(0, 999), Still.ends(0, 999));
        Still.refused(FairByEar::new, "judge", 0, 0, 0);
        Still.refused(Fairs::full, "judge", 8, 0, 0);
    }

    private static void promise49Who() {
        Check.promise(49, "Who clapped, of all others of PEOPLE (each where it is, each as likely ahead): "
            + "likewise: the one; the ROW: its odds.");
        FairByEar x = line();
        x.person(2, 0, 0);
        x.person(0, 0, 0);
        x.person(2, 0, 0);
        x.person(9, 0, 0);
        Check.due("two at one place: the first", x.who(0, 2, 0), 1);
        Check.row(x, "36 of 36, 6, 36", 6, 13);
        Check.due("the one where one is", x.who(0, 0, 0), 2);
        Check.row(x, "36 of 6, 36, 6", 3, 4);
        Check.due("not itself, but the first of all", x.who(2, 0, 0), 0);
        x.wall(2, 2);
        Check.due("back 4", x.who(0, 2, 4), 1);
        Check.row(x, "both of there", 1, 2);
        x.walk(1, 3);
        Check.due("where each is now", x.who(0, 2, 4), 3);
        Check.row(x, "where each is now", 1, 1);
        FairByEar y = Fairs.people(0, 0, 0, 0, 0, 0, 0, 0);
        Check.due("of seven the first", y.who(0, 0, 0), 1);
        Check.row(y, "of seven the first", 1, 7);
        y.tunnel(0, 1, 2);
        y.walk(7, 1);
        Check.due("the last one", y.who(0, 3, 0), 7);
        Check.row(y, "the last one", 1, 1);
    }

    private static void promise49Likewise() {
        Check.promise(49, "-2, NONE likewise.");
        FairByEar x = line();
        Check.due("nobody else", x.who(0, 0, 0), -2);
        x.person(9, 0, 0);
        Check.due("one without a way", x.who(0, 0, 0), -2);
        Check.due("one without a way", x.who(0, 999, 0), -2);
        Check.due("who has no way hears none", x.who(1, 0, 0), -2);
        Still.still(Fairs::some, "-2", "who", 0, 900, 0);
        Still.still(Fairs::some, "-2", "who", 0, 0, 900);
        Still.refusedBeyond("who", new int[] {1, 4, 0}, Still.ends(0, 3), Still.ends(0, 999), Still.ends(0, 999));
        Still.refused(FairByEar::new, "who", 0, 0, 0);
        Still.refused(Fairs::full, "who", 8, 0, 0);
        x = line();
        x.person(0, 0, 0);
        for (int d = 0; d < 4; d++) {
            x.ear(d, 9);
        }
        Check.due("off by 3", x.who(0, 3, 3), 1);
        Check.due("late off by 4", x.who(0, 4, 0), -2);
        Check.due("back off by 4", x.who(0, 0, 4), -2);
    }

    private static void promise50Fire() {
        Check.promise(50, "A lamp is lit at a PLACE: -2, if GAS is FIRE or more (all PURSES are 0 then: they are "
            + "dropped);");
        FairByEar x = Fairs.people(50, 60, 999);
        x.gas(0, 499);
        Check.due("just below", x.lamp(0), 7);
        Check.due("purses yet", x.count(7), 1109);
        x.gas(0, 500);
        Check.due("just so", x.lamp(9), -2);
        Check.due("dropped", x.count(7), 0);
        for (int person = 0; person < 3; person++) {
            Check.due("each", x.of(person, 1), 0);
        }
        x.person(0, 5, 0);
        Check.due("one who comes later has a purse", x.count(7), 5);
        x.gas(3, 9999);
        Check.due("below FIRE", x.lamp(0), 15);
        x.gas(0, 9999);
        Check.due("above all", x.lamp(0), -2);
        Check.due("nobody", fire().lamp(0), -2);
    }

    private static FairByEar fire() {
        FairByEar x = new FairByEar();
        x.gas(3, 1);
        x.gas(0, 9999);
        return x;
    }

    private static FairByEar lit() {
        FairByEar x = new FairByEar();
        x.tunnel(0, 1, 10);
        x.tunnel(1, 2, 1);
        x.person(0, 50, 0);
        x.person(1, 60, 0);
        x.person(2, 70, 0);
        x.person(0, 80, 0);
        x.good(1);
        x.good(1);
        x.item(0, 0, 10);
        x.item(0, 2, 10);
        x.item(1, 1, 10);
        x.item(0, 1, 10);
        return x;
    }

    private static void promise50Seen() {
        Check.promise(50, "else all see: PEOPLE (bits) no farther than 10 from it;");
        FairByEar x = lit();
        Check.due("10, not 11", x.lamp(0), 1 + 2 + 8);
        Check.due("all", x.lamp(1), 15);
        Check.due("1, not 11", x.lamp(2), 2 + 4);
        Check.due("nobody has a way", x.lamp(9), 0);
        x.person(9, 0, 0);
        Check.due("one where it is", x.lamp(9), 16);
        Check.due("nobody at all", new FairByEar().lamp(0), 0);
    }

    private static void promise50Items() {
        Check.promise(50, "the ROW: ITEMS (bits) of OWNERS among them;");
        FairByEar x = lit();
        x.lamp(0);
        Check.row(x, "of three", 1 + 4 + 8, 0);
        x.lamp(2);
        Check.row(x, "of two", 2 + 4 + 8, 0);
        x.lamp(9);
        Check.row(x, "of none", 0, 0);
        x.buy(0, 1);
        x.lamp(0);
        Check.row(x, "a sold one is its buyer's", 15, 0);
        FairByEar y = Fairs.people(9);
        y.good(1);
        for (int i = 0; i < 12; i++) {
            y.item(0, 0, 5);
        }
        y.lamp(0);
        Check.row(y, "twelve", 4095, 0);
    }

    private static void promise50Wanted() {
        Check.promise(50, "of these those not SOLD which two or more of them, the OWNER left out, WANT more than "
            + "their PRICE.");
        FairByEar x = lit();
        x.want(0, 0, 11);
        x.want(1, 0, 11);
        x.want(2, 0, 99);
        x.want(3, 0, 11);
        x.want(0, 1, 11);
        x.want(3, 1, 10);
        x.want(2, 1, 99);
        x.lamp(0);
        Check.row(x, "the owner left out, who is too far left out", 1 + 4 + 8, 1 + 8);
        x.lamp(1);
        Check.row(x, "all", 15, 15);
        x.want(2, 1, 0);
        x.want(1, 0, 10);
        x.want(2, 0, 10);
        x.lamp(1);
        Check.row(x, "more than their price", 15, 2 + 8);
        x.want(3, 0, 10);
        x.lamp(1);
        Check.row(x, "one is too few", 15, 0);
        x.want(3, 0, 11);
        x.buy(1, 0);
        x.buy(2, 3);
        x.lamp(1);
        Check.row(x, "sold ones are seen, but not wanted, though two want them", 15, 2);
        x.undo();
        x.undo();
        x.rounds(1);
        x.lamp(1);
        Check.row(x, "more than their price now: 11, 10, 9, 9", 15, 2 + 4 + 8);
        FairByEar poor = Fairs.people(0, 0, 0);
        poor.good(1);
        poor.item(0, 0, 98);
        poor.want(1, 0, 99);
        poor.want(2, 0, 99);
        poor.lamp(0);
        Check.row(poor, "whatever their purses", 1, 1);
    }

    private static void promise50NoneSuch() {
        Check.promise(50, "NONE: none such.");
        Still.refusedBeyond("lamp", new int[] {5}, Still.ends(0, 9));
        Still.refused(JudgeTest::burning, "lamp", 10);
        Still.refused(JudgeTest::burning, "lamp", -1);
    }

    private static FairByEar burning() {
        FairByEar x = Fairs.some();
        x.gas(0, 9999);
        return x;
    }
}
