/** Promises 39 to 42: crowds. */
public final class CrowdsTest {
    public static void main(String[] args) {
        loud();
        loudest();
        heard();
        crowds();
        Check.done();
    }

    private static void loud() {
        FairByEar x = new FairByEar();
        x.tunnel(0, 1, 6);
        x.tunnel(1, 2, 19);
        x.tunnel(2, 3, 20);
        x.tunnel(3, 4, 20);
        x.person(0, 0, 0);
        x.person(0, 0, 0);
        x.person(1, 0, 0);
        x.person(9, 0, 0);
        Check.due("here and 6 away", x.loud(0), 60 + 60 + 8);
        Check.due("cut each", x.loud(2), 2 + 2 + 3);
        Check.due("45 is 1 yet", x.loud(3), 1 + 1 + 1);
        Check.due("65 and 59", x.loud(4), 0 + 0 + 1 * (60 / 60));
        Check.due("no way", x.loud(8), 0);
        Check.due("alone", x.loud(9), 60);
        Check.due("place 10", x.loud(10), -1);
        Check.due("place -1", x.loud(-1), -1);
    }

    private static void loudest() {
        FairByEar x = new FairByEar();
        Check.due("nobody", x.loudest(), 0);
        Check.row(x, "nobody", 0, 10);
        x.person(4, 0, 0);
        x.person(7, 0, 0);
        Check.due("of equal ones the first", x.loudest(), 4);
        Check.row(x, "of equal ones the first", 60, 2);
        x.person(7, 0, 0);
        Check.due("two", x.loudest(), 7);
        Check.row(x, "two", 120, 1);
        x.person(2, 0, 0);
        x.tunnel(2, 3, 1);
        x.person(3, 0, 0);
        x.person(3, 0, 0);
        Check.due("by tunnels", x.loudest(), 3);
        Check.row(x, "by tunnels", 150, 1);
    }

    private static void heard() {
        FairByEar x = new FairByEar();
        Check.due("place 10", x.heard(10, 0), -1);
        Check.due("place -1", x.heard(-1, 0), -1);
        Check.due("1000", x.heard(0, 1000), -1);
        Check.due("-1", x.heard(0, -1), -1);
        Check.due("nothing", x.heard(9, 0), 1);
        for (int i = 2; i <= 6; i++) {
            Check.due("heard", x.heard(9, 999), i);
        }
        Check.due("7", x.heard(0, 0), -1);
    }

    private static void crowds() {
        FairByEar x = new FairByEar();
        x.person(0, 0, 0);
        Check.due("nothing heard", x.crowds(6, 0), 15625);
        Check.row(x, "nothing heard", 0, 0, 0, 0, 0, 0);
        x.tunnel(0, 1, 5);
        x.tunnel(0, 2, 2);
        x.heard(0, 80);
        Check.due("people of now are not of them", x.crowds(3, 0), 5);
        Check.row(x, "the first one", 0, 0, 4);
        Check.due("one place", x.crowds(1, 0), 0);
        Check.row(x, "none");
        Check.due("give or take", x.crowds(1, 20), 1);
        Check.row(x, "give or take", 1);
        Check.due("give or take too little", x.crowds(1, 19), 0);
        x.heard(1, 50);
        Check.due("two places", x.crowds(3, 20), fitting(20, false));
        x.heard(1, 140);
        Check.due("two numbers of one place", x.crowds(3, 60), fitting(60, true));
        Check.due("they can't both be just so", x.crowds(3, 44), 0);
        Check.due("0 places", x.crowds(0, 0), -1);
        Check.due("7 places", x.crowds(7, 0), -1);
        Check.due("-1", x.crowds(1, -1), -1);
        Check.due("100", x.crowds(1, 100), -1);
        FairByEar y = new FairByEar();
        y.heard(0, 99);
        Check.due("99", y.crowds(1, 99), 4);
        Check.row(y, "99", 0);
        Check.due("98", y.crowds(1, 98), 3);
        Check.row(y, "98", 1);
        sixPlaces();
    }

    /** No TUNNELS: each crowd is heard where it is alone. */
    private static void sixPlaces() {
        FairByEar x = new FairByEar();
        int[] crowd = {4, 0, 3, 1, 2, 4};
        for (int place = 0; place < 6; place++) {
            x.heard(place, 60 * crowd[place]);
        }
        Check.due("just one", x.crowds(6, 0), 1);
        Check.row(x, "just one", 4, 0, 3, 1, 2, 4);
        Check.due("just below one more", x.crowds(6, 59), 1);
        Check.due("one more or less each", x.crowds(6, 60), 2 * 2 * 3 * 3 * 3 * 2);
        Check.row(x, "one more or less each", 3, 0, 2, 0, 1, 3);
        Check.due("without the last", x.crowds(5, 0), 0);
    }

    /** With 80 at PLACE 0, 50 at 1 and, if also, 140 there. */
    private static int fitting(int give, boolean also) {
        int many = 0;
        for (int a = 0; a <= 4; a++) {
            for (int b = 0; b <= 4; b++) {
                for (int c = 0; c <= 4; c++) {
                    int at0 = a * 60 + b * 10 + c * 20;
                    int at1 = a * 10 + b * 60 + c * 7;
                    boolean fits = Math.abs(at0 - 80) <= give && Math.abs(at1 - 50) <= give;
                    many += fits && (!also || Math.abs(at1 - 140) <= give) ? 1 : 0;
                }
            }
        }
        Check.due("some fit", many > 0, true);
        return many;
    }
}
