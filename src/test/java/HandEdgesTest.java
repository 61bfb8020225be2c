/** Term 3 and promise 5, what is done by hand: each sentence of the document that names a boundary, alone. */
public final class HandEdgesTest {
    private static final Check check = new Check();
    private static final int LEAST = Check.LEAST;
    private static final int MOST = Check.MOST;

    public static void main(String[] args) {
        fallenByNibbling();
        fallenByWedding();
        fallenByRazing();
        notFallen();
        nobodyGoes();
        nibbleBounds();
        nibbleEachWall();
        bakeBounds();
        bakeAtMost();
        bakeWhatDoesNotStand();
        weddingNeedsAll();
        weddingTakesTen();
        weddingTakesTheThickest();
        weddingAsksNoNumber();
        moveNeedsLodgers();
        moveToAnotherThatStands();
        moveBounds();
        moveFromWhatDoesNotStand();
        razeWhatStands();
        razeAllWalls();
        actOfNobody();
        actOfAnotherWhat();
        refusedActsChangeNothing();
        check.finish("HandEdgesTest");
    }

    /** House 0 is next to 1 and 2, of which 1 does not stand. */
    private static GingerRents row() {
        GingerRents x = Check.quiet(3, 0);
        x.set(3, 0, 5);
        x.set(0, 2, 20);
        x.set(7, 1, 0);
        Check.tell(x, 3, "house 0 next 1;house 2 next 0;");
        return x;
    }

    private static void fallenByNibbling() {
        check.says("By hand (a HOUSE that stands no more by it: its LODGERS go as in (c))");
        GingerRents x = row();
        check.due("the last wall but one", x.act(3, 0, 4), true);
        check.due("still there", x.of(0, 7), 1);
        check.due("the last", x.act(3, 0, 1), true);
        check.due("gone", x.of(0, 7), 0);
        check.due("next door", x.of(2, 7), 2);
        check.due("not to the one that does not stand", x.of(1, 7), 0);
        check.due("lines", x.look(7), 3);
        check.line(x, 1, 0, 0, 1);
        check.line(x, 2, 4, 0, 2);
    }

    private static void fallenByWedding() {
        check.says("By hand (a HOUSE that stands no more by it: its LODGERS go as in (c))");
        GingerRents x = row();
        check.due("by the last wall", x.act(20, 0, 0), true);
        check.due("gone", x.of(0, 7), 0);
        check.due("both next door", x.of(2, 7), 3);
        check.line(x, 0, 5, 0, 2);
        check.line(x, 1, 4, 0, 2);
        check.due("the door is there", x.of(0, 9), 1);
    }

    private static void fallenByRazing() {
        check.says("By hand (a HOUSE that stands no more by it: its LODGERS go as in (c))");
        GingerRents x = row();
        check.due("raze", x.act(22, 0, 0), true);
        check.due("next door", x.of(2, 7), 2);
        check.due("the other", x.act(22, 2, 0), true);
        check.due("to the street", x.of(0, 7) + x.of(1, 7) + x.of(2, 7), 0);
        check.due("lines", x.look(7), 2);
        check.line(x, 0, 4, 0, 2);
        check.line(x, 1, 4, 2, -1);
    }

    private static void notFallen() {
        check.says("a HOUSE that stands no more by it");
        GingerRents x = row();
        x.set(7, 1, 3);
        check.due("a wall of another", x.act(0, 2, 20), true);
        check.due("who had no wall before stays where he is", x.of(1, 7), 3);
        check.due("a baking", x.act(11, 1, 1), true);
        check.due("stays", x.of(1, 7), 3);
    }

    private static void nobodyGoes() {
        check.says("its LODGERS go as in (c)");
        GingerRents x = row();
        x.set(7, 0, 0);
        check.due("raze", x.act(22, 0, 0), true);
        check.due("nobody went", x.of(2, 7), 1);
        check.due("no line", x.look(7), 0);
    }

    private static void nibbleBounds() {
        check.says("to NIBBLE n from a WALL (1 at least; EATEN more)");
        GingerRents x = row();
        for (int n : new int[] {LEAST, -5, -1, 0}) {
            check.due("nibble " + n, x.act(3, 0, n), false);
        }
        check.due("nothing is eaten", x.look(3), 0);
        check.due("1", x.act(3, 0, 1), true);
        check.due("1 is eaten", x.look(3), 1);
        check.due("the rest", x.act(3, 0, 4), true);
        check.due("all is eaten", x.look(3), 5);
    }

    private static void nibbleEachWall() {
        check.says("What 0 .. 3 to NIBBLE n from that WALL of HOUSE who (no more than it has)");
        GingerRents x = Check.quiet(1, 0);
        Check.walls(x, 0, 10, 20, 30, 99);
        int[] has = {10, 20, 30, 99};
        for (int w = 0; w < 4; w++) {
            check.due("one too many of " + w, x.act(w, 0, has[w] + 1), false);
            check.due("by far too many of " + w, x.act(w, 0, MOST), false);
            check.due("as it was", x.of(0, w), has[w]);
            check.due("all of " + w, x.act(w, 0, has[w]), true);
            check.due("none is left of " + w, x.of(0, w), 0);
            check.due("none to nibble of " + w, x.act(w, 0, 1), false);
            check.line(x, w, 0, 0, has[w]);
        }
    }

    private static void bakeBounds() {
        check.says("10 .. 13 to BAKE n (1 .. 99) on it");
        GingerRents x = Check.quiet(1, 0);
        for (int w = 0; w < 4; w++) {
            for (int n : new int[] {LEAST, -1, 0, 100, MOST}) {
                check.due("bake " + n, x.act(10 + w, 0, n), false);
            }
            check.due("as it was", x.of(0, w), 0);
            check.due("1", x.act(10 + w, 0, 1), true);
            check.due("1 then", x.of(0, w), 1);
        }
        check.due("99", x.act(13, 0, 99), true);
        check.due("99 then", x.of(0, 3), 99);
    }

    private static void bakeAtMost() {
        check.says("to BAKE n on a WALL (99 at most)");
        GingerRents x = Check.quiet(1, 97);
        int[] due = {98, 99, 99};
        for (int i = 0; i < due.length; i++) {
            check.due("one more", x.act(12, 0, 1), true);
            check.due("then", x.of(0, 2), due[i]);
        }
        check.due("99 more", x.act(12, 0, 99), true);
        check.due("99 yet", x.of(0, 2), 99);
        check.due("the others", x.of(0, 0) + x.of(0, 1) + x.of(0, 3), 3 * 97);
        check.due("a baking that changes nothing can be undone, too", x.look(13), 4);
        check.due("no line", x.look(7), 0);
    }

    private static void bakeWhatDoesNotStand() {
        check.says("to BAKE n on a WALL");
        GingerRents x = Check.quiet(1, 0);
        check.due("bake", x.act(10, 0, 3), true);
        check.due("stands", x.look(6), 1);
        check.due("its lodgers", x.of(0, 7), 1);
    }

    private static void weddingNeedsAll() {
        check.says("to WED (a HOUSE that stands with DOOR 0 and LODGERS: DOOR 1");
        GingerRents x = Check.quiet(3, 50);
        x.act(22, 0, 0);
        x.set(7, 0, 2);
        check.due("one that does not stand", x.act(20, 0, 0), false);
        x.set(7, 1, 0);
        check.due("one without lodgers", x.act(20, 1, 0), false);
        check.due("one with all", x.act(20, 2, 0), true);
        check.due("one with a door", x.act(20, 2, 0), false);
        for (int h = 0; h < 3; h++) {
            check.due("door of " + h, x.of(h, 9), h == 2 ? 1 : 0);
        }
        check.due("lodgers of 0", x.of(0, 7), 2);
        check.due("lodgers of 1", x.of(1, 7), 0);
        check.due("lodgers of 2", x.of(2, 7), 2);
    }

    private static void weddingTakesTen() {
        check.says("the thickest WALL 10 less, 0 at least; LODGERS one more)");
        int[] wall = {11, 10, 9, 1, 99};
        int[] due = {1, 0, 0, 0, 89};
        for (int i = 0; i < wall.length; i++) {
            GingerRents x = Check.quiet(1, 0);
            x.set(1, 0, wall[i]);
            check.due("wed", x.act(20, 0, 0), true);
            check.due("of " + wall[i], x.of(0, 1), due[i]);
            check.due("nothing is eaten", x.look(3), 0);
            check.due("lodgers, or the street", x.of(0, 7), due[i] > 0 ? 2 : 0);
            check.line(x, 0, 5, 0, 2);
        }
    }

    private static void weddingTakesTheThickest() {
        check.says("the thickest WALL 10 less, 0 at least");
        GingerRents x = Check.quiet(2, 0);
        Check.walls(x, 0, 11, 30, 12, 30);
        Check.walls(x, 1, 7, 7, 8, 3);
        x.act(20, 0, 0);
        check.due("of several the least", x.of(0, 1), 20);
        check.due("not the other", x.of(0, 3), 30);
        x.act(20, 1, 0);
        check.due("0 at least, and no other wall for the rest", x.of(1, 2), 0);
        check.due("the others", x.of(1, 0) + x.of(1, 1) + x.of(1, 3), 17);
    }

    private static void weddingAsksNoNumber() {
        check.says("20 to WED");
        for (int n : new int[] {LEAST, -1, 0, 12, MOST}) {
            check.due("n " + n, Check.quiet(1, 20).act(20, 0, n), true);
        }
    }

    private static void moveNeedsLodgers() {
        check.says("to MOVE the LODGERS (there are some) of a HOUSE");
        GingerRents x = Check.quiet(2, 5);
        x.set(7, 0, 0);
        check.due("nobody", x.act(21, 0, 1), false);
        x.set(7, 0, 1);
        check.due("one", x.act(21, 0, 1), true);
        check.due("nobody is left", x.act(21, 0, 1), false);
        check.due("both are there", x.of(1, 7), 2);
        check.due("one line", x.look(7), 1);
        check.line(x, 0, 4, 0, 1);
    }

    private static void moveToAnotherThatStands() {
        check.says("to MOVE the LODGERS (there are some) of a HOUSE to another one that stands");
        GingerRents x = Check.quiet(3, 5);
        x.act(22, 2, 0);
        check.due("to itself", x.act(21, 0, 0), false);
        check.due("to one that does not stand", x.act(21, 0, 2), false);
        for (int n : new int[] {LEAST, -1, 3, 12, MOST}) {
            check.due("to " + n, x.act(21, 0, n), false);
        }
        check.due("nobody moved", x.of(0, 7), 1);
        check.due("to one that is not next", x.act(21, 0, 1), true);
        check.due("moved", x.of(1, 7), 2);
    }

    private static void moveBounds() {
        check.says("21 to MOVE to HOUSE n");
        GingerRents x = Check.quiet(12, 1);
        for (int n : new int[] {LEAST, -1, 12, MOST}) {
            check.due("to " + n, x.act(21, 0, n), false);
        }
        check.due("to the last", x.act(21, 0, 11), true);
        check.due("to the first", x.act(21, 11, 0), true);
        check.due("two are there", x.of(0, 7), 2);
    }

    private static void moveFromWhatDoesNotStand() {
        check.says("of a HOUSE to another one that stands");
        GingerRents x = Check.quiet(2, 5);
        Check.walls(x, 0, 0, 0, 0, 0);
        check.due("from one without a wall", x.act(21, 0, 1), true);
        check.due("moved", x.of(1, 7), 2);
    }

    private static void razeWhatStands() {
        check.says("22 to RAZE (stands; n not asked)");
        for (int n : new int[] {LEAST, -1, 0, 99, MOST}) {
            GingerRents x = Check.quiet(1, 99);
            check.due("n " + n, x.act(22, 0, n), true);
            check.due("all walls", x.of(0, 0) + x.of(0, 1) + x.of(0, 2) + x.of(0, 3), 0);
            check.due("again", x.act(22, 0, n), false);
            check.due("nothing is eaten", x.look(3), 0);
        }
        GingerRents x = Check.quiet(1, 0);
        check.due("one that never stood", x.act(22, 0, 0), false);
        check.due("who lives there stays", x.of(0, 7), 1);
    }

    private static void razeAllWalls() {
        check.says("to RAZE (all WALLS 0)");
        for (int w = 0; w < 4; w++) {
            GingerRents x = Check.quiet(1, 0);
            x.set(w, 0, 1 + 98 * (w % 2));
            check.due("of one wall", x.act(22, 0, 0), true);
            for (int v = 0; v < 4; v++) {
                check.due("wall " + v, x.of(0, v), 0);
            }
            check.due("stands no more", x.look(6), 0);
        }
    }

    private static void actOfNobody() {
        check.says("true; false if it can't be");
        GingerRents x = Check.quiet(2, 20);
        for (int what : new int[] {0, 1, 2, 3, 10, 11, 12, 13, 20, 21, 22}) {
            for (int who : new int[] {LEAST, -1, 2, 12, MOST}) {
                check.due("act " + what + " of " + who, x.act(what, who, 1), false);
            }
        }
        check.due("of none at all", new GingerRents().act(10, 0, 1), false);
    }

    private static void actOfAnotherWhat() {
        check.says("true; false if it can't be, or another what.");
        GingerRents x = Check.quiet(2, 20);
        for (int what = 4; what <= 7; what++) {
            x.set(what, 0, 9);
        }
        for (int what : new int[] {LEAST, -1, 4, 5, 9, 14, 15, 19, 23, 24, 30, 33, MOST}) {
            check.due("act " + what, x.act(what, 0, 1), false);
        }
    }

    private static void refusedActsChangeNothing() {
        check.says("false if it can't be, or another what.");
        GingerRents x = Check.quiet(2, 20);
        x.act(20, 0, 0);
        x.act(22, 1, 0);
        String before = Digest.borough(x);
        int[][] acts = {{0, 0, 0}, {1, 0, 21}, {10, 0, 0}, {13, 0, 100}, {20, 0, 0}, {20, 1, 0}, {21, 0, 0}, {21, 0, 1}, {21, 1, 0},
            {22, 1, 0}, {4, 0, 1}, {23, 0, 1}, {0, 2, 1}, {10, -1, 1}, {20, 2, 0}, {21, 0, 2}, {22, 2, 0}};
        for (int[] act : acts) {
            check.due("act " + act[0] + " " + act[1] + " " + act[2], x.act(act[0], act[1], act[2]), false);
        }
        check.due("all as it was", Digest.borough(x), before);
    }
}
