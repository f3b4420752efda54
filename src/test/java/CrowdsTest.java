/** Promises 39 to 42: crowds. */
public final class CrowdsTest {
    public static void main(String[] args) {
        promise39Loud();
        promise39CutEach();
        promise39NoneSuch();
        promise40Loudest();
        promise40TheRow();
        promise41Heard();
        promise42Crowds();
        promise42AtAllPlacesTold();
        promise42GiveOrTake();
        promise42TheRow();
        promise42Refused();
        Check.done(39, 42);
    }

    private static void promise39Loud() {
        Check.promise(39, "LOUD at a PLACE: the sum over PEOPLE of 60 by (1 and FAR of theirs from it),");
        FairByEar x = new FairByEar();
        Check.due("nobody", x.loud(0), 0);
        x.tunnel(0, 1, 1);
        x.tunnel(1, 2, 4);
        x.person(0, 0, 0);
        Check.due("here", x.loud(0), 60);
        Check.due("1 away", x.loud(1), 30);
        Check.due("5 away", x.loud(2), 10);
        x.person(2, 0, 0);
        x.person(2, 0, 0);
        Check.due("one here, two 5 away", x.loud(0), 60 + 10 + 10);
        FairByEar y = Fairs.people(0, 0, 0, 0, 0, 0, 0, 0);
        Check.due("eight", y.loud(0), 480);
    }

    private static void promise39CutEach() {
        Check.promise(39, "cut each (0 without a way).");
        FairByEar x = new FairByEar();
        x.tunnel(0, 1, 6);
        x.tunnel(1, 2, 19);
        x.tunnel(2, 3, 20);
        x.tunnel(3, 4, 20);
        x.person(0, 0, 0);
        x.person(0, 0, 0);
        x.person(1, 0, 0);
        x.person(9, 0, 0);
        Check.due("60 by 7 is 8", x.loud(0), 60 + 60 + 8);
        Check.due("60 by 26 is 2, by 20 is 3", x.loud(2), 2 + 2 + 3);
        Check.due("60 by 46 is 1", x.loud(3), 1 + 1 + 1);
        Check.due("60 by 66 is 0, by 60 is 1", x.loud(4), 1);
        Check.due("nobody has a way", x.loud(8), 0);
        Check.due("one alone", x.loud(9), 60);
        FairByEar y = new FairByEar();
        y.tunnel(0, 1, 6);
        for (int i = 0; i < 7; i++) {
            y.person(0, 0, 0);
        }
        Check.due("seven times 8, not 60", y.loud(1), 56);
    }

    private static void promise39NoneSuch() {
        Check.promise(39, "NONE: none such.");
        Still.refusedBeyond("loud", new int[] {5}, Still.ends(0, 9));
    }

    private static void promise40Loudest() {
        Check.promise(40, "The PLACE at which it is the loudest; of equal ones the first: it;");
        FairByEar x = new FairByEar();
        Check.due("nobody", x.loudest(), 0);
        x.person(9, 0, 0);
        Check.due("the last", x.loudest(), 9);
        x.person(4, 0, 0);
        Check.due("of equal ones the first", x.loudest(), 4);
        x.person(9, 0, 0);
        Check.due("two", x.loudest(), 9);
        x.person(0, 0, 0);
        x.person(0, 0, 0);
        Check.due("the first of all", x.loudest(), 0);
    }

    private static void promise40TheRow() {
        Check.promise(40, "the ROW: LOUD there, how many PLACES are just as loud.");
        FairByEar x = new FairByEar();
        x.loudest();
        Check.row(x, "nobody: all are", 0, 10);
        x.person(4, 0, 0);
        x.loudest();
        Check.row(x, "one alone", 60, 1);
        x.person(7, 0, 0);
        x.loudest();
        Check.row(x, "two", 60, 2);
        x.person(9, 0, 0);
        x.loudest();
        Check.row(x, "three", 60, 3);
        x.person(9, 0, 0);
        x.loudest();
        Check.row(x, "the last alone", 120, 1);
        x.person(2, 0, 0);
        x.tunnel(2, 3, 1);
        x.person(3, 0, 0);
        x.person(3, 0, 0);
        x.loudest();
        Check.row(x, "by tunnels", 150, 1);
    }

    private static void promise41Heard() {
        Check.promise(41, "At a PLACE it was heard as loud as a number (0 .. 999): how many were told.");
        FairByEar x = new FairByEar();
        Check.due("0", x.heard(9, 0), 1);
        for (int i = 2; i <= 6; i++) {
            Check.due("999", x.heard(0, 999), i);
        }
        Check.promise(41, "Refused: others, 6.");
        Check.due("the 7th", x.heard(0, 0), -1);
        Still.refusedBeyond("heard", new int[] {2, 50}, Still.ends(0, 9), Still.ends(0, 999));
        Still.refused(Fairs::full, "heard", 0, 0);
        Still.refused(Fairs::full, "heard", 9, 999);
    }

    private static void promise42Crowds() {
        Check.promise(42, "Crowds at PLACES 0 .. n less 1 (n 1 .. 6), 0 .. 4 at each, with which it would be as "
            + "loud as was heard");
        FairByEar x = Fairs.people(0);
        int all = 1;
        for (int n = 1; n <= 6; n++) {
            all *= 5;
            Check.due("nothing heard, " + n + " places", x.crowds(n, 0), all);
        }
        x.heard(0, 240);
        Check.due("4 of them", x.crowds(1, 0), 1);
        Check.row(x, "4 of them", 4);
        FairByEar y = new FairByEar();
        y.heard(0, 300);
        Check.due("5 of them are too many", y.crowds(1, 0), 0);
        FairByEar z = Fairs.people(0);
        z.tunnel(0, 1, 5);
        z.tunnel(0, 2, 2);
        z.heard(0, 80);
        Check.due("people of now are not of them", z.crowds(3, 0), 5);
        Check.row(z, "80 by 20s and 10s alone, or 60 and 20 more", 0, 0, 4);
        FairByEar cut = new FairByEar();
        cut.tunnel(0, 1, 6);
        cut.heard(1, 32);
        Check.due("cut each: 4 by 8", cut.crowds(1, 0), 1);
        FairByEar last = new FairByEar();
        last.heard(5, 60);
        Check.due("one at the last place", last.crowds(6, 0), 3125);
        Check.row(last, "one at the last place", 0, 0, 0, 0, 0, 1);
        Check.due("without the last place", last.crowds(5, 0), 0);
    }

    private static void promise42AtAllPlacesTold() {
        Check.promise(42, "at all PLACES told,");
        FairByEar x = new FairByEar();
        int[] crowd = {4, 0, 3, 1, 2, 4};
        for (int place = 0; place < 6; place++) {
            x.heard(place, 60 * crowd[place]);
        }
        Check.due("six places, just one", x.crowds(6, 0), 1);
        Check.row(x, "six places, just one", 4, 0, 3, 1, 2, 4);
        Check.due("without the last", x.crowds(5, 0), 0);
        FairByEar y = new FairByEar();
        y.heard(0, 60);
        y.heard(0, 120);
        Check.due("two numbers of one place", y.crowds(1, 0), 0);
        Check.due("they can't both be just so", y.crowds(1, 59), 0);
        Check.due("they can, give or take", y.crowds(1, 60), 2);
        FairByEar z = new FairByEar();
        z.heard(9, 0);
        Check.due("0 where none of them has a way", z.crowds(2, 0), 25);
        z.heard(9, 1);
        Check.due("1 where none of them has a way", z.crowds(2, 0), 0);
    }

    private static void promise42GiveOrTake() {
        Check.promise(42, "give or take so much (0 .. 99): how many;");
        FairByEar x = new FairByEar();
        x.heard(0, 99);
        Check.due("take 99", x.crowds(1, 99), 4);
        Check.row(x, "take 99: 0, 60, 120, 180", 0);
        Check.due("take 98", x.crowds(1, 98), 3);
        Check.row(x, "take 98: 60, 120, 180", 1);
        Check.due("give 81", x.crowds(1, 81), 3);
        Check.due("give 80", x.crowds(1, 80), 2);
        Check.due("0", x.crowds(1, 0), 0);
        FairByEar y = new FairByEar();
        y.heard(0, 999);
        Check.due("far too loud", y.crowds(1, 99), 0);
        FairByEar z = new FairByEar();
        int[] crowd = {4, 0, 3, 1, 2, 4};
        for (int place = 0; place < 6; place++) {
            z.heard(place, 60 * crowd[place]);
        }
        Check.due("just below one more", z.crowds(6, 59), 1);
        Check.due("one more or less each", z.crowds(6, 60), 2 * 2 * 3 * 3 * 3 * 2);
        manyFit();
    }

    /** With 80 at PLACE 0 and 50 at 1, all that fit are counted by hand. */
    private static void manyFit() {
        FairByEar x = new FairByEar();
        x.tunnel(0, 1, 5);
        x.tunnel(0, 2, 2);
        x.heard(0, 80);
        x.heard(1, 50);
        for (int give = 0; give <= 99; give += 9) {
            int many = 0;
            for (int i = 0; i < 125; i++) {
                int at0 = i / 25 * 60 + i / 5 % 5 * 10 + i % 5 * 20;
                int at1 = i / 25 * 10 + i / 5 % 5 * 60 + i % 5 * 7;
                many += Math.abs(at0 - 80) <= give && Math.abs(at1 - 50) <= give ? 1 : 0;
            }
            Check.due("give or take " + give, x.crowds(3, give), many);
        }
    }

    private static void promise42TheRow() {
        Check.promise(42, "the ROW: the first one, PLACE by PLACE (none without).");
        FairByEar x = new FairByEar();
        x.crowds(6, 0);
        Check.row(x, "of six places", 0, 0, 0, 0, 0, 0);
        x.crowds(1, 0);
        Check.row(x, "of one place", 0);
        x.heard(0, 60);
        x.heard(1, 120);
        x.heard(2, 180);
        x.crowds(4, 0);
        Check.row(x, "place by place", 1, 2, 3, 0);
        x.heard(3, 1);
        x.crowds(4, 0);
        Check.row(x, "none");
        x.crowds(4, 60);
        Check.row(x, "the first one", 0, 1, 2, 0);
    }

    private static void promise42Refused() {
        Check.promise(42, "NONE: others.");
        Still.refusedBeyond("crowds", new int[] {2, 50}, Still.ends(1, 6), Still.ends(0, 99));
        Still.refused(FairByEar::new, "crowds", 0, 0);
        Still.refused(FairByEar::new, "crowds", 7, 0);
    }
}
