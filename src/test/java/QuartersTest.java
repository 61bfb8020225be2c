/** Promises 6 and 12: quarters and the book. */
public final class QuartersTest {
    private static final Check check = new Check();

    public static void main(String[] args) {
        bounds();
        weather();
        office();
        officeByHand();
        rents();
        rats();
        rain();
        frost();
        leaving();
        fallen();
        bookIsFull();
        bookAsks();
        check.finish("QuartersTest");
    }

    private static void bounds() {
        GingerRents x = new GingerRents();
        check.due("0", x.quarters(0), -1);
        check.due("-1", x.quarters(-1), -1);
        check.due("61", x.quarters(61), -1);
        check.due("max", x.quarters(Integer.MAX_VALUE), -1);
        check.due("still 0", x.look(5), 0);
        for (int i = 0; i < 166; i++) {
            x.quarters(60);
        }
        check.due("9960", x.look(5), 9960);
        check.due("10000", x.quarters(40), -1);
        check.due("9960 yet", x.look(5), 9960);
        check.due("9999", x.quarters(39), 0);
        check.due("above", x.quarters(1), -1);
        check.due("9999 it is", x.look(5), 9999);
    }

    private static void weather() {
        GingerRents x = new GingerRents();
        Check.tell(x, 1, "in 1 rain 3;in 0 rain 2;in 1 frost;in 1 rain 4;in 2 thaw;in 3 frost;in 3 thaw;");
        x.quarters(1);
        check.due("rain 2", x.look(1), 2);
        check.due("no frost", x.look(2), 0);
        x.quarters(1);
        check.due("rain 4", x.look(1), 4);
        check.due("frost", x.look(2), 1);
        x.quarters(1);
        check.due("rain stays", x.look(1), 4);
        check.due("thaw", x.look(2), 0);
        x.quarters(1);
        check.due("line by line", x.look(2), 0);
    }

    private static void office() {
        GingerRents x = Check.quiet(2, 1);
        Check.tell(x, 0, "rent 9 when quarter=0;rent 0;gnaws 0;melts 0;");
        Check.tell(x, 2, "in 1 ice 0 3;in 2 ice 0 9;in 1 bake 1 3 60;in 1 bake 1 3 60;in 2 bake 0 2 5;");
        check.due("both fall", x.quarters(1), 2);
        check.due("icing", x.of(0, 8), 5);
        x.quarters(1);
        check.due("3 less", x.of(0, 8), 2);
        check.due("99 at most", x.of(1, 3), 99);
        check.due("stands", x.look(6), 2);
        x.quarters(1);
        check.due("0 at least", x.of(0, 8), 0);
        check.due("baked", x.of(0, 2), 5);
        check.due("no line for it", x.look(7), 6);
        check.due("age by those that stand", x.of(0, 10), 1);
        check.due("age of the other", x.of(1, 10), 2);
    }

    private static void officeByHand() {
        GingerRents x = Check.quiet(3, 20);
        x.set(7, 2, 0);
        Check.tell(x, 3, "house 0 next 1;house 1 next 2;");
        Check.tell(x, 2, "in 0 wed 0;in 0 wed 0;in 0 wed 2;in 1 raze 0;in 1 raze 0;in 2 wed 0;");
        check.due("nobody falls", x.quarters(1), 0);
        check.due("wed", x.of(0, 9), 1);
        check.due("by a wall", x.of(0, 0), 10);
        check.due("once", x.of(0, 7), 2);
        check.due("not who is not there", x.of(2, 9), 0);
        check.due("one line", x.look(7), 1);
        check.due("wed", x.book(0, 1), 5);
        check.due("razed houses do not count", x.quarters(1), 0);
        check.due("gone", x.of(1, 7), 3);
        check.due("line", x.book(1, 1), 4);
        check.due("in quarter 1", x.book(1, 0), 1);
        check.due("to", x.book(1, 3), 1);
        x.quarters(1);
        check.due("no more lines", x.look(7), 2);
        GingerRents y = Check.quiet(2, 0);
        y.set(1, 0, 7);
        y.set(1, 1, 9);
        Check.tell(y, 3, "house 0 next 1;");
        Check.tell(y, 2, "in 0 wed 0;");
        check.due("a wedding that fells is not counted", y.quarters(1), 0);
        check.due("they went", y.of(1, 7), 3);
    }

    private static void rents() {
        GingerRents x = Check.quiet(3, 3);
        x.set(1, 0, 6);
        x.set(3, 0, 5);
        x.set(7, 1, 0);
        x.set(0, 2, 0);
        x.set(1, 2, 0);
        x.set(2, 2, 0);
        x.set(3, 2, 0);
        Check.tell(x, 0, "rent 5;gnaws 0;melts 0;");
        x.quarters(1);
        // 3 6 3 5 -> 5, 4 (1), 4 (3), 3 (1), 3 (3): the thickest each time.
        check.due("wall 0", x.of(0, 0), 3);
        check.due("wall 1", x.of(0, 1), 3);
        check.due("wall 2", x.of(0, 2), 3);
        check.due("wall 3", x.of(0, 3), 3);
        check.due("who is not there pays nothing", x.of(1, 0), 3);
        check.due("eaten", x.look(3), 5);
        check.due("no icing", x.of(0, 8), 0);
        check.due("one that does not stand owes nothing", x.of(2, 8), 0);
        check.due("nibbled", x.book(0, 3), 5);
        check.due("gone", x.book(1, 1), 4);
        x.quarters(1);
        check.due("the least of several: wall 0", x.of(0, 0), 1);
        check.due("wall 1", x.of(0, 1), 2);
        check.due("wall 2", x.of(0, 2), 2);
        check.due("wall 3", x.of(0, 3), 2);
        check.due("falls", x.quarters(2), 1);
        check.due("icing", x.of(0, 8), 3);
        int last = x.look(7) - 1;
        check.due("gone", x.book(last, 1), 4);
        check.due("to the street", x.book(last, 3), -1);
        check.due("iced", x.book(last - 1, 1), 1);
        check.due("owed", x.book(last - 1, 3), 3);
        check.due("nibbled", x.book(last - 2, 3), 2);
        check.due("in quarter 3", x.book(last - 2, 0), 3);
        check.due("eaten", x.look(3), 17);
        GingerRents y = Check.quiet(1, 1);
        Check.tell(y, 0, "rent 4;gnaws 0;melts 0;");
        check.due("paid to the last crumb", y.quarters(1), 1);
        check.due("no icing", y.of(0, 8), 0);
        check.due("two lines", y.look(7), 2);
        GingerRents z = Check.quiet(1, 9);
        z.quarters(1);
        check.due("no rent, no line", z.look(7), 0);
    }

    private static void rats() {
        GingerRents x = Check.quiet(2, 2);
        x.set(0, 0, 0);
        Check.tell(x, 0, "rent 0;melts 0;gnaws 500 when wall=2;gnaws 0;");
        x.state(99);
        x.quarters(1);
        int state = 99;
        int gnawed = 0;
        int[] first = new int[2];
        for (int h = 0; h < 2; h++) {
            for (int w = h == 0 ? 1 : 0; w < 4; w++) {
                state = 1664525 * state + 1013904223;
                boolean gnaws = (state >>> 8) % 1000 < 500;
                check.due("house " + h + " wall " + w, x.of(h, w), gnaws ? 1 : 2);
                gnawed += gnaws ? 1 : 0;
                first[h] += gnaws ? 1 : 0;
            }
        }
        check.due("gnawed", x.look(4), gnawed);
        check.due("state", x.look(8), state);
        check.due("line", x.book(0, 1), 2);
        check.due("of all walls", x.book(0, 3), first[0]);
        check.due("of the other", x.book(1, 3), first[1]);
        GingerRents y = Check.quiet(1, 1);
        y.state(7);
        y.quarters(5);
        check.due("gnaws 0 draws nothing", y.look(8), 7);
        Check.tell(y, 0, "rent 0;melts 0;gnaws 1000;");
        check.due("all is gnawed", y.quarters(1), 1);
        check.due("and who lives there goes", y.of(0, 7), 0);
        check.due("gnawed first", y.book(0, 1), 2);
        check.due("gone then", y.book(1, 1), 4);
        // The sum that a wall is asked by is what the walls before it have left.
        GingerRents z = Check.quiet(1, 2);
        Check.tell(z, 0, "rent 0;melts 0;gnaws 1000 when sum>6;gnaws 0;");
        z.quarters(1);
        check.due("two walls", z.look(4), 2);
        check.due("the first two", z.of(0, 1), 1);
        check.due("not the third", z.of(0, 2), 2);
    }

    private static void rain() {
        GingerRents x = Check.quiet(1, 5);
        x.set(2, 0, 2);
        x.set(3, 0, 0);
        x.set(8, 0, 4);
        x.set(6, 0, 1);
        Check.tell(x, 0, "rent 0;gnaws 0;");
        x.quarters(1);
        check.due("3 less", x.of(0, 0), 2);
        check.due("0 at least", x.of(0, 2), 0);
        check.due("of all together what there was", x.book(0, 3), 8);
        check.due("melted", x.book(0, 1), 3);
        check.due("falls", x.quarters(1), 1);
        check.due("melted 4", x.book(1, 3), 4);
        check.due("gone", x.book(2, 1), 4);
        check.due("no age for it", x.of(0, 10), 1);
    }

    private static void frost() {
        GingerRents x = Check.quiet(2, 9);
        x.set(8, 0, 9);
        Check.tell(x, 0, "rent 0;gnaws 0;");
        Check.tell(x, 1, "in 0 frost;");
        x.act(22, 1, 0);
        x.quarters(1);
        check.due("nothing melts", x.of(0, 0), 9);
        check.due("harder", x.of(0, 6), 1);
        check.due("not what does not stand", x.of(1, 6), 0);
        x.quarters(20);
        check.due("9 at most", x.of(0, 6), 9);
        check.due("age", x.of(0, 10), 21);
    }

    private static void leaving() {
        GingerRents x = Check.quiet(4, 4);
        Check.tell(x, 3, "house 0 next 3;house 0 next 2;house 0 next 1;");
        Check.tell(x, 0, "rent 99 when quarter=0 and lodgers>1;rent 16 when quarter=0 and wall>0 and almonds=5;rent 0;gnaws 0;melts 0;");
        x.set(4, 0, 5);
        x.set(0, 1, 0);
        x.set(1, 1, 0);
        x.set(2, 1, 0);
        x.set(3, 1, 0);
        check.due("house 0 falls, and then by its lodgers house 2", x.quarters(1), 2);
        check.due("house 1 does not stand: its lodgers go at the end", x.book(x.look(7) - 1, 2), 1);
        check.due("of house 2 they go to the street", x.of(3, 7), 1);
        check.due("all that stands", x.look(6), 8);
        check.due("icing", x.of(2, 8), 83);
        int[] what = {0, 4, 0, 1, 4, 4};
        int[] which = {0, 0, 2, 2, 2, 1};
        int[] much = {16, 2, 16, 83, -1, -1};
        check.due("lines", x.look(7), 6);
        for (int i = 0; i < 6; i++) {
            check.due("quarter of line " + i, x.book(i, 0), 0);
            check.due("what of line " + i, x.book(i, 1), what[i]);
            check.due("which of line " + i, x.book(i, 2), which[i]);
            check.due("how much of line " + i, x.book(i, 3), much[i]);
        }
    }

    private static void fallen() {
        GingerRents x = Check.quiet(3, 1);
        Check.tell(x, 0, "rent 99 when almonds=1;rent 0;gnaws 1000 when almonds=2;gnaws 0;melts 9 when almonds=3;melts 0;");
        x.set(4, 0, 1);
        x.set(4, 1, 2);
        x.set(4, 2, 3);
        Check.tell(x, 2, "in 1 bake 1 0 1;in 3 bake 1 0 1;");
        check.due("by rent, rats and rain, and those baked anew again", x.quarters(60), 5);
    }

    private static void bookIsFull() {
        GingerRents x = Check.quiet(12, 99);
        Check.tell(x, 0, "rent 1;gnaws 0;melts 0;");
        x.quarters(13);
        check.due("150 lines", x.look(7), 150);
        check.due("all is eaten", x.look(3), 156);
        check.due("the last", x.book(149, 2), 5);
        check.due("of quarter 12", x.book(149, 0), 12);
        check.due("no more", x.book(150, 0), -2);
        check.due("nibbled all the same", x.act(0, 0, 1), true);
        check.due("150 yet", x.look(7), 150);
        x.undo();
        x.undo();
        check.due("144 by undoing", x.look(7), 144);
        x.act(0, 3, 2);
        check.due("room again", x.look(7), 145);
        check.due("a new line", x.book(144, 3), 2);
        check.due("of 3", x.book(144, 2), 3);
    }

    private static void bookAsks() {
        GingerRents x = Check.quiet(2, 9);
        x.quarters(3);
        x.act(1, 1, 4);
        int[] due = {3, 0, 1, 4};
        for (int what = 0; what < 4; what++) {
            check.due("book " + what, x.book(0, what), due[what]);
        }
        check.due("what 4", x.book(0, 4), -2);
        check.due("what -1", x.book(0, -1), -2);
        check.due("line 1", x.book(1, 0), -2);
        check.due("line -1", x.book(-1, 0), -2);
    }
}
