/** Promises 1 to 7: the mine. */
public final class MineTest {
    public static void main(String[] args) {
        promise1ANewObject();
        promise2Tunnel();
        promise2Refused();
        promise3Wall();
        promise4Far();
        promise5Person();
        promise6Walk();
        promise7Of();
        Check.done(1, 7);
    }

    private static void promise1ANewObject() {
        Check.promise(1, "No TUNNELS, nobody.");
        FairByEar x = new FairByEar();
        for (int what = 0; what <= 9; what++) {
            Check.due("count(" + what + ")", x.count(what), 0);
        }
        for (int a = 0; a < 10; a++) {
            for (int b = 0; b < 10; b++) {
                Check.due("far", x.far(a, b), a == b ? 0 : 999);
            }
        }
        Check.none("nobody is there", () -> x.of(0, 0));
        Check.none("no item", () -> x.thing(0, 0));
        Check.row(x, "no row");
        x.tunnel(0, 1, 1);
        x.person(0, 1, 1);
        FairByEar another = new FairByEar();
        Check.due("another one has none of its tunnels", another.count(0), 0);
        Check.due("nor of its people", another.count(1), 0);
        Check.due("nor of its ways", another.far(0, 1), 999);
    }

    private static void promise2Tunnel() {
        Check.promise(2, "A TUNNEL more between two unlike PLACES: its number.");
        FairByEar x = new FairByEar();
        for (int i = 0; i < 16; i++) {
            Check.due("tunnel " + i, x.tunnel(9, 0, 20 - i), i);
            Check.due("as many", x.count(0), i + 1);
            Check.due("the least of them", x.far(0, 9), 20 - i);
            Check.due("and back", x.far(9, 0), 20 - i);
        }
        FairByEar y = new FairByEar();
        y.tunnel(3, 4, 5);
        y.tunnel(4, 3, 6);
        Check.due("a longer one beside it is no way to take", y.far(3, 4), 5);
    }

    private static void promise2Refused() {
        Check.promise(2, "Refused: others, 16.");
        Still.refusedBeyond("tunnel", new int[] {3, 4, 5}, Still.ends(0, 9), Still.ends(0, 9), Still.ends(1, 20));
        for (int place = 0; place < 10; place++) {
            Still.refused(Fairs::some, "tunnel", place, place, 1);
        }
        Still.refused(FairByEar::new, "tunnel", 0, 1, 0);
        Still.refused(FairByEar::new, "tunnel", 0, 1, 21);
        Still.refused(Fairs::full, "tunnel", 0, 9, 1);
    }

    private static void promise3Wall() {
        Check.promise(3, "WALL of a PLACE becomes v: what it was.");
        FairByEar x = new FairByEar();
        for (int place = 0; place < 10; place++) {
            Check.due("at first", x.wall(place, 20 - place), 0);
        }
        for (int place = 0; place < 10; place++) {
            Check.due("each its own", x.wall(place, 0), 20 - place);
            Check.due("it was 0", x.wall(place, 1), 0);
        }
        Check.promise(3, "Refused: others.");
        Still.refusedBeyond("wall", new int[] {2, 5}, Still.ends(0, 9), Still.ends(0, 20));
    }

    private static void promise4Far() {
        Check.promise(4, "FAR of two PLACES.");
        FairByEar x = new FairByEar();
        x.tunnel(0, 1, 20);
        x.tunnel(2, 3, 20);
        Check.due("two parts", x.far(0, 3), 999);
        x.tunnel(1, 2, 20);
        Check.due("all in a line", x.far(0, 3), 60);
        Check.due("and back", x.far(3, 0), 60);
        for (int i = 3; i < 9; i++) {
            x.tunnel(i, i + 1, 20);
        }
        Check.due("the longest that there can be", x.far(0, 9), 180);
        x.tunnel(0, 9, 7);
        Check.due("by the other end", x.far(1, 8), 47);
        x.tunnel(8, 1, 20);
        Check.due("a shorter one than by two", x.far(1, 8), 20);
        Check.due("itself", x.far(4, 4), 0);
        Check.promise(4, "NONE: none such.");
        Still.refusedBeyond("far", new int[] {0, 2}, Still.ends(0, 9), Still.ends(0, 9));
        Check.due("both none such, though alike", x.far(10, 10), -1);
        Check.due("both none such, though alike", x.far(-1, -1), -1);
    }

    private static void promise5Person() {
        Check.promise(5, "One of PEOPLE more: its number.");
        FairByEar x = new FairByEar();
        for (int i = 0; i < 8; i++) {
            Check.due("person " + i, x.person(9 - i, 999 - i, 9 - i), i);
            Check.due("as many", x.count(1), i + 1);
        }
        for (int i = 0; i < 8; i++) {
            Check.due("place", x.of(i, 0), 9 - i);
            Check.due("purse", x.of(i, 1), 999 - i);
            Check.due("load", x.of(i, 2), 9 - i);
        }
        Check.promise(5, "Refused: others, 8.");
        Still.refusedBeyond("person", new int[] {2, 50, 4}, Still.ends(0, 9), Still.ends(0, 999), Still.ends(0, 9));
        Still.refused(Fairs::full, "person", 0, 0, 0);
    }

    private static void promise6Walk() {
        Check.promise(6, "One goes to a PLACE to which there is a way: FAR.");
        FairByEar x = new FairByEar();
        x.tunnel(0, 1, 4);
        x.tunnel(1, 2, 5);
        x.person(0, 1, 1);
        x.person(0, 1, 1);
        Check.due("walk", x.walk(0, 2), 9);
        Check.due("it is there", x.of(0, 0), 2);
        Check.due("the other one is not", x.of(1, 0), 0);
        Check.due("back", x.walk(0, 0), 9);
        Check.due("to where it is", x.walk(0, 0), 0);
        Check.due("the last one", x.walk(1, 1), 4);
        Check.promise(6, "-2: no way; NONE: none such.");
        Check.due("no way", x.walk(0, 3), -2);
        Check.due("it stayed", x.of(0, 0), 0);
        Still.still(Fairs::some, "-2", "walk", 2, 3);
        Still.still(Fairs::some, "-2", "walk", 0, 9);
        Still.refusedBeyond("walk", new int[] {1, 2}, Still.ends(0, 3), Still.ends(0, 9));
        Still.refused(FairByEar::new, "walk", 0, 0);
    }

    private static void promise7Of() {
        Check.promise(7, "Of one, what 0: PLACE, 1: PURSE, 2: LOAD.");
        FairByEar x = new FairByEar();
        x.person(9, 999, 0);
        x.person(0, 0, 9);
        int[] due = {9, 999, 0, 0, 0, 9};
        for (int i = 0; i < 6; i++) {
            Check.due("of " + i / 3 + ", what " + i % 3, x.of(i / 3, i % 3), due[i]);
        }
        Check.promise(7, "NoSuchElementException: none such, another what.");
        Still.noneBeyond("of", new int[] {1, 1}, Still.ends(0, 3), Still.ends(0, 2));
        Still.none(FairByEar::new, "of", 0, 0);
        Still.none(Fairs::full, "of", 8, 0);
    }
}
