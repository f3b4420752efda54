/** Promises 1 to 7: the mine. */
public final class MineTest {
    public static void main(String[] args) {
        aNewOneIsEmpty();
        tunnels();
        walls();
        lengths();
        people();
        walks();
        Check.done();
    }

    private static void aNewOneIsEmpty() {
        FairByEar x = new FairByEar();
        for (int what = 0; what <= 9; what++) {
            Check.due("new: count(" + what + ")", x.count(what), 0);
        }
        for (int a = 0; a < 10; a++) {
            for (int b = 0; b < 10; b++) {
                Check.due("new: far", x.far(a, b), a == b ? 0 : 999);
            }
        }
        Check.row(x, "new");
    }

    private static void tunnels() {
        FairByEar x = new FairByEar();
        Check.due("like places", x.tunnel(3, 3, 1), -1);
        Check.due("length 0", x.tunnel(0, 1, 0), -1);
        Check.due("length 21", x.tunnel(0, 1, 21), -1);
        Check.due("place -1", x.tunnel(-1, 1, 5), -1);
        Check.due("place 10", x.tunnel(0, 10, 5), -1);
        Check.due("nothing was dug", x.count(0), 0);
        Check.due("nothing is joined", x.far(0, 1), 999);
        for (int i = 0; i < 16; i++) {
            Check.due("tunnel " + i, x.tunnel(9, 0, 20 - i), i);
            Check.due("the least of them", x.far(0, 9), 20 - i);
        }
        Check.due("tunnel 16", x.tunnel(9, 0, 1), -1);
        Check.due("as it was", x.far(9, 0), 5);
        Check.due("16", x.count(0), 16);
    }

    private static void walls() {
        FairByEar x = new FairByEar();
        Check.due("at first 0", x.wall(9, 20), 0);
        Check.due("it was 20", x.wall(9, 0), 20);
        Check.due("21", x.wall(9, 21), -1);
        Check.due("-1", x.wall(9, -1), -1);
        Check.due("place 10", x.wall(10, 1), -1);
        Check.due("place -1", x.wall(-1, 1), -1);
        Check.due("it stayed 0", x.wall(9, 3), 0);
        Check.due("each its own", x.wall(0, 3), 0);
    }

    private static void lengths() {
        FairByEar x = new FairByEar();
        x.tunnel(0, 1, 20);
        x.tunnel(2, 3, 20);
        Check.due("two parts", x.far(0, 3), 999);
        x.tunnel(1, 2, 20);
        Check.due("all in a line", x.far(0, 3), 60);
        Check.due("and back", x.far(3, 0), 60);
        for (int i = 3; i < 9; i++) {
            x.tunnel(i, i + 1, 20);
        }
        Check.due("the longest", x.far(0, 9), 180);
        x.tunnel(0, 9, 7);
        Check.due("by the other end", x.far(1, 8), 47);
        Check.due("place 10", x.far(10, 0), -1);
        Check.due("place -1", x.far(0, -1), -1);
        Check.due("itself", x.far(4, 4), 0);
    }

    private static void people() {
        FairByEar x = new FairByEar();
        Check.due("purse -1", x.person(0, -1, 0), -1);
        Check.due("purse 1000", x.person(0, 1000, 0), -1);
        Check.due("load -1", x.person(0, 0, -1), -1);
        Check.due("load 10", x.person(0, 0, 10), -1);
        Check.due("place 10", x.person(10, 0, 0), -1);
        Check.due("place -1", x.person(-1, 0, 0), -1);
        Check.due("nobody", x.count(1), 0);
        for (int i = 0; i < 8; i++) {
            Check.due("person " + i, x.person(9 - i, 999 - i, 9 - i), i);
        }
        Check.due("person 8", x.person(0, 0, 0), -1);
        for (int i = 0; i < 8; i++) {
            Check.due("place", x.of(i, 0), 9 - i);
            Check.due("purse", x.of(i, 1), 999 - i);
            Check.due("load", x.of(i, 2), 9 - i);
        }
        Check.none("another what", () -> x.of(0, 3));
        Check.none("what -1", () -> x.of(0, -1));
        Check.none("person 8", () -> x.of(8, 0));
        Check.none("person -1", () -> x.of(-1, 0));
    }

    private static void walks() {
        FairByEar x = new FairByEar();
        x.tunnel(0, 1, 4);
        x.tunnel(1, 2, 5);
        x.person(0, 1, 1);
        Check.due("walk", x.walk(0, 2), 9);
        Check.due("it is there", x.of(0, 0), 2);
        Check.due("no way", x.walk(0, 3), -2);
        Check.due("it stayed", x.of(0, 0), 2);
        Check.due("to where it is", x.walk(0, 2), 0);
        Check.due("place 10", x.walk(0, 10), -1);
        Check.due("place -1", x.walk(0, -1), -1);
        Check.due("nobody", x.walk(1, 0), -1);
        Check.due("person -1", x.walk(-1, 0), -1);
        Check.due("it stayed there", x.of(0, 0), 2);
    }
}
