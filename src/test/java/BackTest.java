/** Promises 38 and 39: undoing, and the image. */
public final class BackTest {
    private static final Check check = new Check();

    public static void main(String[] args) {
        sixAreKept();
        eachKind();
        whatForgets();
        textsStay();
        image();
        imageOfAll();
        check.finish("BackTest");
    }

    private static void sixAreKept() {
        GingerRents x = new GingerRents();
        x.house(99, 0, 0);
        x.quarters(10);
        check.due("six", x.look(13), 6);
        for (int i = 0; i < 6; i++) {
            check.due("undo", x.undo(), true);
            check.due("quarter", x.look(5), 9 - i);
            check.due("left", x.look(13), 5 - i);
        }
        check.due("no seventh", x.undo(), false);
        check.due("quarter 4", x.look(5), 4);
        x.act(0, 0, 1);
        x.quarters(3);
        x.undo();
        x.quarters(5);
        check.due("six again", x.look(13), 6);
        for (int i = 0; i < 6; i++) {
            x.undo();
        }
        check.due("five quarters and one", x.look(5), 5);
    }

    /** All that can be asked about the borough, in one number. */
    private static long digest(GingerRents x) {
        long sum = 17;
        for (int what = 0; what <= 8; what++) {
            sum = sum * 31 + x.look(what);
        }
        for (int h = 0; h < x.look(0); h++) {
            for (int what = 0; what <= 10; what++) {
                sum = sum * 31 + x.of(h, what);
            }
        }
        for (int i = 0; i < x.look(7); i++) {
            for (int what = 0; what < 4; what++) {
                sum = sum * 31 + x.book(i, what);
            }
        }
        return sum;
    }

    private static void eachKind() {
        int[][] acts = {{2, 0, 5}, {13, 1, 9}, {20, 0, 0}, {21, 0, 1}, {22, 1, 0}, {-1, 0, 0}};
        for (int[] act : acts) {
            GingerRents x = new GingerRents();
            x.house(5, 1, 2);
            x.house(9, 3, 4);
            x.house(2, 3, 4);
            Check.tell(x, 1, "in 0 rain 5;in 0 frost;");
            Check.tell(x, 2, "in 0 wed 0;in 0 raze 2;");
            x.state(123);
            x.act(0, 0, 5);
            long before = digest(x);
            boolean done = act[0] < 0 ? x.quarters(1) >= 0 : x.act(act[0], act[1], act[2]);
            check.due("act " + act[0], done, true);
            check.holds("something is other than it was", digest(x) != before);
            check.due("undo", x.undo(), true);
            check.due("all as it was behind " + act[0], digest(x), before);
        }
    }

    private static void whatForgets() {
        GingerRents x = new GingerRents();
        x.house(9, 0, 0);
        x.quarters(2);
        x.image(true);
        check.due("the taking of the image does not", x.look(13), 2);
        x.goes(5, 0);
        x.stands(0);
        check.due("thought does not", x.look(13), 2);
        x.act(0, 0, 90);
        x.quarters(0);
        x.house(100, 0, 0);
        x.set(0, 0, 100);
        check.due("what can't be does not", x.look(13), 2);
        x.set(4, 0, 1);
        check.due("set does", x.look(13), 0);
        check.due("undo", x.undo(), false);
        x.quarters(1);
        x.image(false);
        check.due("going back does", x.look(13), 0);
        check.due("quarter", x.look(5), 2);
    }

    private static void textsStay() {
        GingerRents x = new GingerRents();
        x.house(9, 0, 0);
        x.house(9, 0, 0);
        x.quarters(1);
        Check.tell(x, 0, "rent 77;");
        Check.tell(x, 3, "house 0 next 1;");
        x.undo();
        check.due("the law is not undone", x.of(0, 11), 77);
        check.due("next is not undone", x.of(0, 12), 2);
    }

    private static void image() {
        GingerRents x = new GingerRents();
        check.due("none yet", x.image(false), false);
        x.house(9, 0, 0);
        check.due("taken", x.image(true), true);
        long first = digest(x);
        x.house(8, 0, 0);
        x.quarters(3);
        check.due("back", x.image(false), true);
        check.due("as it was", digest(x), first);
        x.quarters(7);
        check.due("back again", x.image(false), true);
        check.due("as it was again", digest(x), first);
        x.quarters(1);
        long second = digest(x);
        x.image(true);
        x.act(22, 0, 0);
        x.image(false);
        check.due("the later one", digest(x), second);
        check.due("a house anew", x.house(3, 0, 0), 1);
        check.due("its lodgers", x.of(1, 7), 1);
    }

    private static void imageOfAll() {
        GingerRents x = new GingerRents();
        x.house(9, 0, 0);
        x.house(9, 0, 0);
        Check.tell(x, 0, "rent 7;");
        Check.tell(x, 1, "in 5 frost;");
        Check.tell(x, 2, "in 0 wed 0;");
        Check.tell(x, 3, "house 0 next 1;");
        tellThoughts(x, 1);
        x.state(5);
        x.act(0, 0, 1);
        x.image(true);
        Check.tell(x, 0, "rent 8;rent 9;");
        Check.tell(x, 1, "");
        Check.tell(x, 2, "");
        Check.tell(x, 3, "");
        tellThoughts(x, 2);
        x.state(6);
        Check.tell(x, 0, "rent");
        Check.put(x, "ren");
        x.act(0, 0, 2);
        x.image(false);
        check.due("the tape of texts is as it is", x.end(3), true);
        check.due("not longer", x.end(4), false);
        check.due("fault() is as it is", x.fault(0), 1);
        check.due("its place", x.fault(1), 4);
        check.due("nothing to undo", x.undo(), false);
        check.due("law", x.of(0, 11), 7);
        check.due("law lines", x.look(9), 1);
        check.due("sky", x.look(10), 1);
        check.due("office", x.look(11), 1);
        check.due("next", x.of(1, 12), 1);
        check.due("state", x.look(8), 5);
        check.due("book", x.look(7), 1);
        check.due("book line", x.book(0, 3), 1);
        check.due("plate", x.plate(1, 0), 1);
        check.due("pans", x.dough(1), 2);
        check.due("marks", x.measures(1), 2);
        check.due("bites", x.whose(0, 0), 1);
        check.due("crumbs", x.crumbs(0), 1);
        check.due("ovens", x.ovens(0), 2);
        check.due("left", x.line(0, 1), 1);
        check.due("council", x.council(0), 1);
        x.image(false);
        check.due("what was told behind it is not in the image", x.dough(1), 2);
        x.quarters(1);
        check.due("the office works", x.of(0, 9), 1);
    }

    private static void tellThoughts(GingerRents x, int v) {
        x.piece(v);
        x.dough(v);
        x.mark(v);
        x.bite(v, v);
        x.crumb(v);
        x.loaf(v, v);
        x.heir(v - 1, v);
        x.member(v, v);
    }
}
