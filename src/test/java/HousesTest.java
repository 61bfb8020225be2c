/** Promises 1 to 5, 11 and 40: what is there at first, houses, what is set, done by hand, asked. */
public final class HousesTest {
    private static final Check check = new Check();

    public static void main(String[] args) {
        newObject();
        state();
        house();
        set();
        nibble();
        bake();
        wed();
        move();
        raze();
        wrongActs();
        of();
        ofByLaw();
        look();
        check.finish("HousesTest");
    }

    private static void newObject() {
        GingerRents x = new GingerRents();
        for (int what = 0; what <= 13; what++) {
            check.due("new look " + what, x.look(what), 0);
        }
        check.due("new of", x.of(0, 0), -1);
        check.due("new book", x.book(0, 0), -2);
        check.due("new undo", x.undo(), false);
        check.due("new image", x.image(false), false);
        check.due("new tape", x.end(1), false);
        check.due("new tape 0", x.end(0), true);
        check.due("new fault", x.fault(0), 0);
        check.due("new fault place", x.fault(1), -1);
        check.due("new plate", x.plate(1, 0), -1);
        check.due("new pans", x.pans(1, 0), 0);
        check.due("new measures", x.measures(0), 0);
        check.due("new whose", x.whose(0, 0), 0);
        check.due("new crumbs", x.crumbs(0), 0);
        check.due("new ovens", x.ovens(0), 0);
        check.due("new line", x.line(0, 0), 0);
        check.due("new council", x.council(1), 0);
        check.due("NONE", GingerRents.NONE, -1);
    }

    private static void state() {
        GingerRents x = new GingerRents();
        check.due("state", x.state(-7), 0);
        check.due("state again", x.state(Integer.MAX_VALUE), -7);
        check.due("look state", x.look(8), Integer.MAX_VALUE);
        x.quarters(1);
        x.state(5);
        check.due("state forgets what can be undone", x.look(13), 0);
    }

    private static void house() {
        GingerRents x = new GingerRents();
        check.due("wall -1", x.house(-1, 0, 0), -1);
        check.due("wall 100", x.house(100, 0, 0), -1);
        check.due("almonds -1", x.house(1, -1, 0), -1);
        check.due("almonds 10", x.house(1, 10, 0), -1);
        check.due("teeth -1", x.house(1, 0, -1), -1);
        check.due("teeth 10", x.house(1, 0, 10), -1);
        x.quarters(1);
        check.due("house that can't be", x.house(100, 0, 0), -1);
        check.due("one that can't be forgets nothing", x.look(13), 1);
        check.due("the first", x.house(99, 9, 8), 0);
        check.due("a house forgets what can be undone", x.look(13), 0);
        for (int w = 0; w < 4; w++) {
            check.due("wall " + w, x.of(0, w), 99);
        }
        int[] due = {9, 8, 0, 1, 0, 0, 0};
        for (int i = 0; i < due.length; i++) {
            check.due("at first " + (4 + i), x.of(0, 4 + i), due[i]);
        }
        check.due("one of no walls", x.house(0, 0, 0), 1);
        check.due("that does not stand", x.look(6), 1);
        check.due("but has lodgers", x.of(1, 7), 1);
        for (int i = 2; i < 12; i++) {
            check.due("house " + i, x.house(1, 0, 0), i);
        }
        check.due("the thirteenth", x.house(1, 0, 0), -1);
        check.due("twelve", x.look(0), 12);
    }

    private static void set() {
        GingerRents x = new GingerRents();
        x.house(5, 1, 2);
        x.house(6, 3, 4);
        int[] most = {99, 99, 99, 99, 9, 9, 9, 99};
        for (int what = 0; what < 8; what++) {
            check.due("below " + what, x.set(what, 1, -1), false);
            check.due("above " + what, x.set(what, 1, most[what] + 1), false);
            check.due("no house " + what, x.set(what, 2, 1), false);
            check.due("no house -1 " + what, x.set(what, -1, 1), false);
            check.due("most " + what, x.set(what, 1, most[what]), true);
            check.due("is most " + what, x.of(1, what), most[what]);
            check.due("least " + what, x.set(what, 1, 0), true);
            check.due("is least " + what, x.of(1, what), 0);
        }
        check.due("the other is as it was", x.of(0, 3), 5);
        check.due("of no walls now", x.look(6), 1);
        check.due("rain of nobody", x.set(8, -99, 9), true);
        check.due("rain", x.look(1), 9);
        check.due("rain 10", x.set(8, 0, 10), false);
        check.due("rain -1", x.set(8, 0, -1), false);
        check.due("what 9", x.set(9, 0, 0), false);
        check.due("what -1", x.set(-1, 0, 0), false);
        x.quarters(1);
        x.set(9, 0, 0);
        check.due("what can't be set forgets nothing", x.look(13), 1);
        x.set(8, 0, 9);
        check.due("what is set forgets", x.look(13), 0);
        GingerRents y = new GingerRents();
        y.house(5, 0, 0);
        for (int w = 0; w < 4; w++) {
            y.set(w, 0, 0);
        }
        check.due("who is set to have no wall does not go yet", y.of(0, 7), 1);
        check.due("no line for it", y.look(7), 0);
        check.due("it is not counted", y.quarters(1), 0);
        check.due("goes with the quarter", y.of(0, 7), 0);
    }

    private static void nibble() {
        GingerRents x = new GingerRents();
        x.house(5, 0, 0);
        x.house(7, 0, 0);
        Check.tell(x, 3, "house 0 next 1;");
        check.due("0 of it", x.act(0, 0, 0), false);
        check.due("-1 of it", x.act(0, 0, -1), false);
        check.due("more than it has", x.act(3, 0, 6), false);
        check.due("all of a wall", x.act(3, 0, 5), true);
        check.due("it is gone", x.of(0, 3), 0);
        check.due("none left of it", x.act(3, 0, 1), false);
        check.due("eaten", x.look(3), 5);
        check.due("one line", x.look(7), 1);
        check.due("what", x.book(0, 1), 0);
        check.due("which", x.book(0, 2), 0);
        check.due("how much", x.book(0, 3), 5);
        x.act(0, 0, 5);
        x.act(1, 0, 5);
        check.due("still there", x.of(0, 7), 1);
        check.due("the last", x.act(2, 0, 5), true);
        check.due("gone next door", x.of(1, 7), 2);
        check.due("from there", x.of(0, 7), 0);
        check.due("lines", x.look(7), 5);
        check.due("nibbled first", x.book(3, 1), 0);
        check.due("gone then", x.book(4, 1), 4);
        check.due("who", x.book(4, 2), 0);
        check.due("where to", x.book(4, 3), 1);
        check.due("four can be undone", x.look(13), 4);
    }

    private static void bake() {
        GingerRents x = new GingerRents();
        x.house(0, 0, 0);
        check.due("0", x.act(10, 0, 0), false);
        check.due("100", x.act(10, 0, 100), false);
        check.due("what 14", x.act(14, 0, 1), false);
        check.due("what 9", x.act(9, 0, 1), false);
        check.due("one that does not stand", x.act(13, 0, 60), true);
        check.due("stands", x.look(6), 1);
        check.due("60", x.of(0, 3), 60);
        check.due("99 at most", x.act(13, 0, 60), true);
        check.due("99", x.of(0, 3), 99);
        check.due("others", x.of(0, 0), 0);
        check.due("no line", x.look(7), 0);
        check.due("at 99, too", x.act(13, 0, 1), true);
        check.due("can be undone", x.look(13), 3);
        check.due("99 at once", x.act(10, 0, 99), true);
    }

    private static void wed() {
        GingerRents x = new GingerRents();
        x.house(8, 0, 0);
        x.house(20, 0, 0);
        x.house(0, 0, 0);
        check.due("no wall", x.act(20, 2, 0), false);
        check.due("no house", x.act(20, 3, 0), false);
        x.set(2, 1, 30);
        x.set(3, 1, 30);
        check.due("wed", x.act(20, 1, -5), true);
        check.due("the thickest, the least of several", x.of(1, 2), 20);
        check.due("not the other", x.of(1, 3), 30);
        check.due("door", x.of(1, 9), 1);
        check.due("lodgers", x.of(1, 7), 2);
        check.due("again", x.act(20, 1, 0), false);
        check.due("line: what", x.book(0, 1), 5);
        check.due("line: which", x.book(0, 2), 1);
        check.due("line: lodgers then", x.book(0, 3), 2);
        x.set(7, 0, 0);
        check.due("nobody there", x.act(20, 0, 0), false);
        x.set(7, 0, 3);
        x.set(1, 0, 0);
        x.set(2, 0, 0);
        x.set(3, 0, 0);
        Check.tell(x, 3, "house 1 next 0;");
        check.due("by the last wall", x.act(20, 0, 0), true);
        check.due("0 at least", x.of(0, 0), 0);
        check.due("who is wed without a wall goes", x.of(1, 7), 6);
        check.due("wed first", x.book(1, 1), 5);
        check.due("four then", x.book(1, 3), 4);
        check.due("gone then", x.book(2, 1), 4);
        check.due("to", x.book(2, 3), 1);
        check.due("door stays", x.of(0, 9), 1);
    }

    private static void move() {
        GingerRents x = new GingerRents();
        x.house(1, 0, 0);
        x.house(2, 0, 0);
        x.house(0, 0, 0);
        check.due("to itself", x.act(21, 0, 0), false);
        check.due("to none", x.act(21, 0, 3), false);
        check.due("to -1", x.act(21, 0, -1), false);
        check.due("to one that does not stand", x.act(21, 0, 2), false);
        check.due("from one that does not stand", x.act(21, 2, 1), true);
        check.due("there", x.of(1, 7), 2);
        check.due("not here", x.of(2, 7), 0);
        check.due("nobody to move", x.act(21, 2, 1), false);
        check.due("a line: gone", x.book(0, 1), 4);
        check.due("from", x.book(0, 2), 2);
        check.due("to", x.book(0, 3), 1);
        check.due("both", x.act(21, 1, 0), true);
        check.due("three", x.of(0, 7), 3);
        check.due("still stands", x.look(6), 3);
    }

    private static void raze() {
        GingerRents x = new GingerRents();
        x.house(4, 0, 0);
        x.house(5, 0, 0);
        x.house(6, 0, 0);
        Check.tell(x, 3, "house 2 next 0;house 1 next 2;");
        check.due("raze", x.act(22, 2, 12345), true);
        for (int w = 0; w < 4; w++) {
            check.due("wall " + w, x.of(2, w), 0);
        }
        check.due("to the first by number", x.of(0, 7), 2);
        check.due("not the other", x.of(1, 7), 1);
        check.due("again", x.act(22, 2, 0), false);
        check.due("the first", x.act(22, 0, 0), true);
        check.due("next stands no more: the street", x.of(0, 7) + x.of(1, 7), 1);
        check.due("where to: none", x.book(1, 3), -1);
        check.due("eaten none", x.look(3), 0);
        x.set(7, 1, 0);
        x.act(22, 1, 0);
        check.due("nobody goes: no line", x.look(7), 2);
    }

    private static void wrongActs() {
        GingerRents x = new GingerRents();
        x.house(9, 0, 0);
        for (int what : new int[] {-1, 4, 9, 14, 19, 23, 100, Integer.MIN_VALUE}) {
            check.due("act " + what, x.act(what, 0, 1), false);
        }
        for (int what : new int[] {0, 10, 20, 21, 22}) {
            check.due("nobody's act " + what, x.act(what, 1, 0), false);
            check.due("act of -1 " + what, x.act(what, -1, 1), false);
        }
        check.due("nothing to undo", x.look(13), 0);
        check.due("nothing in the book", x.look(7), 0);
    }

    private static void of() {
        GingerRents x = new GingerRents();
        x.house(10, 2, 3);
        x.house(1, 0, 0);
        x.house(1, 0, 0);
        Check.tell(x, 3, "house 2 next 0;house 0 next 1;house 1 next 0;");
        check.due("next of 0", x.of(0, 12), 6);
        check.due("next of 1", x.of(1, 12), 1);
        check.due("next of 2", x.of(2, 12), 1);
        for (int what : new int[] {-1, 13, 19, 24, 29, 34, 1000}) {
            check.due("of " + what, x.of(0, what), -1);
        }
        check.due("no house", x.of(3, 0), -1);
        check.due("house -1", x.of(-1, 0), -1);
        check.due("rent", x.of(0, 11), 6);
        x.set(7, 0, 99);
        check.due("rent 99 at most", x.of(0, 11), 99);
        check.due("gnaws", x.of(0, 23), 300);
        x.set(6, 0, 9);
        check.due("gnaws when hard", x.of(0, 23), 30);
        x.set(8, 0, 5);
        check.due("melts: 0 at least", x.of(0, 30), 0);
        check.due("melts", x.of(1, 33), 5);
        x.set(6, 1, 2);
        check.due("melts less hard", x.of(1, 30), 3);
        x.set(3, 1, 0);
        check.due("melts of a wall of 0", x.of(1, 33), 3);
        check.due("gnaws of a wall of 0", x.of(1, 23), 240);
    }

    private static void ofByLaw() {
        GingerRents x = new GingerRents();
        x.house(10, 2, 3);
        x.set(1, 0, 50);
        x.set(3, 0, 50);
        x.set(0, 0, 0);
        Check.tell(x, 0, "rent wall;gnaws wall*10+sum;melts 7 when wall=0;melts wall-100 when wall=10;melts wall+50;");
        check.due("rent by the thickest", x.of(0, 11), 50);
        check.due("gnaws by that wall", x.of(0, 21), 610);
        check.due("of a wall of 0", x.of(0, 20), 110);
        check.due("melts of a wall of 0", x.of(0, 30), 7);
        check.due("melts below 0", x.of(0, 32), 0);
        check.due("melts above 99", x.of(0, 31), 99);
        Check.tell(x, 0, "gnaws 9999;rent 0-1;");
        check.due("gnaws 1000 at most", x.of(0, 20), 1000);
        check.due("rent 0 at least", x.of(0, 11), 0);
        Check.tell(x, 0, "gnaws 0-5;");
        check.due("gnaws 0 at least", x.of(0, 20), 0);
        check.due("rent of no line", x.of(0, 11), 6);
        Check.tell(x, 0, "rent almonds+10*teeth;");
        check.due("almonds, teeth", x.of(0, 11), 32);
        x.act(20, 0, 0);
        Check.tell(x, 0, "rent lodgers+10*door+20*hard;");
        check.due("lodgers, door, hard", x.of(0, 11), 12);
        x.set(6, 0, 2);
        check.due("hard", x.of(0, 11), 52);
        Check.tell(x, 0, "rent 10*age+quarter+20*rain+40*frost;");
        Check.tell(x, 1, "in 1 frost;");
        x.set(8, 0, 1);
        check.due("rain", x.of(0, 11), 20);
        Check.tell(x, 0, "rent 0;gnaws 0;melts 0;");
        x.quarters(1);
        x.house(1, 0, 0);
        x.quarters(1);
        x.set(8, 0, 0);
        Check.tell(x, 0, "rent 10*age+quarter+40*frost;");
        check.due("age 2, quarter 2, frost", x.of(0, 11), 62);
        check.due("age 1, quarter 2, frost", x.of(1, 11), 52);
        Check.tell(x, 0, "rent icing*3;");
        check.due("icing 0", x.of(1, 11), 0);
        Check.tell(x, 0, "rent 9;");
        x.quarters(1);
        Check.tell(x, 0, "rent icing*3;");
        check.due("icing 5", x.of(1, 11), 15);
    }

    private static void look() {
        GingerRents x = new GingerRents();
        x.house(2, 0, 0);
        x.house(0, 0, 0);
        x.house(2, 0, 0);
        Check.tell(x, 0, "rent 1;gnaws 1000;melts 0;");
        Check.tell(x, 1, "in 0 rain 4;in 0 frost;");
        Check.tell(x, 2, "in 5 wed 0;");
        Check.tell(x, 3, "house 0 next 2;house 1 next 2;house 0 next 1;house 2 next 0;");
        x.quarters(1);
        check.due("houses", x.look(0), 3);
        check.due("rain", x.look(1), 4);
        check.due("frost", x.look(2), 1);
        check.due("eaten", x.look(3), 2);
        check.due("gnawed", x.look(4), 8);
        check.due("quarter", x.look(5), 1);
        check.due("stand", x.look(6), 5);
        // Two nibble, two are gnawed, the lodgers of house 1 go.
        check.due("book", x.look(7), 5);
        int state = 0;
        for (int i = 0; i < 8; i++) {
            state = 1664525 * state + 1013904223;
        }
        check.due("state as it is", x.look(8), state);
        check.due("law", x.look(9), 3);
        check.due("sky", x.look(10), 2);
        check.due("office", x.look(11), 1);
        check.due("next", x.look(12), 4);
        check.due("undo", x.look(13), 1);
        check.due("14", x.look(14), -1);
        check.due("-1", x.look(-1), -1);
    }
}
