/** Promises 18 to 30 and 32 to 37: what is told for thought and thought about it. */
public final class KitchenTest {
    private static final Check check = new Check();

    public static void main(String[] args) {
        plate();
        pans();
        mortgage();
        tape();
        teeth();
        crumbs();
        ovens();
        heirs();
        window();
        council();
        game();
        nothingIsForgotten();
        check.finish("KitchenTest");
    }

    private static void plate() {
        GingerRents x = new GingerRents();
        check.due("-2", x.piece(-2), -1);
        check.due("100", x.piece(100), -1);
        check.due("none", x.piece(-1), 0);
        int[] pieces = {9, 0, 1, 9, 9, 0, 2, 3, 99};
        for (int i = 0; i < 9; i++) {
            check.due("piece " + i, x.piece(pieces[i]), i + 1);
        }
        check.due("a tenth", x.piece(1), -1);
        check.due("k 0", x.plate(0, 0), -1);
        check.due("k 10", x.plate(10, 0), -1);
        check.due("what 2", x.plate(2, 2), -1);
        check.due("what -1", x.plate(2, -1), -1);
        check.due("k 1", x.plate(1, 0), 132);
        check.due("k 1 where", x.plate(1, 1), -1);
        check.due("k 2", x.plate(2, 0), 33);
        check.due("k 2 where", x.plate(2, 1), 8);
        // 9 0 1 9 | 9 0 2 3 | 99
        check.due("k 3", x.plate(3, 0), 14);
        check.due("k 3 where", x.plate(3, 1), 4);
        // 9 | 0 1 9 | 9 0 2 3 | 99: a cut behind 9 already.
        check.due("k 4", x.plate(4, 0), 9);
        check.due("k 4 where: the first", x.plate(4, 1), 1);
        check.due("k 9", x.plate(9, 0), 0);
        check.due("k 9 where", x.plate(9, 1), 1);
        check.due("none then", x.piece(-1), 0);
        check.due("k 1 of none", x.plate(1, 0), -1);
        x.piece(5);
        check.due("more than pieces", x.plate(2, 0), -1);
        check.due("one", x.plate(1, 0), 5);
        x.piece(0);
        x.piece(0);
        check.due("shares of nothing", x.plate(2, 0), 0);
        check.due("where of several", x.plate(2, 1), 1);
    }

    private static void pans() {
        GingerRents x = new GingerRents();
        check.due("0", x.dough(0), -1);
        check.due("31", x.dough(31), -1);
        check.due("-2", x.dough(-2), -1);
        int[] doughs = {6, 3, 5, 4, 2, 6, 3, 1};
        for (int i = 0; i < 8; i++) {
            check.due("dough " + i, x.dough(doughs[i]), i + 1);
        }
        check.due("a ninth", x.dough(1), -1);
        check.due("fewest of 10", x.pans(10, 0), 3);
        check.due("first that has room", x.pans(10, 1), 4);
        check.due("fewest of 30", x.pans(30, 0), 1);
        check.due("fewest of 8", x.pans(8, 0), 4);
        check.due("5 is too small", x.pans(5, 0), -1);
        check.due("5 is too small, too", x.pans(5, 1), -1);
        check.due("6 is not", x.pans(6, 0), 5);
        check.due("0", x.pans(0, 0), -1);
        check.due("61", x.pans(61, 0), -1);
        check.due("60", x.pans(60, 0), 1);
        check.due("what 2", x.pans(10, 2), -1);
        check.due("what -1", x.pans(10, -1), -1);
        check.due("none then", x.dough(-1), 0);
        check.due("no pan", x.pans(1, 0), 0);
        for (int i = 0; i < 8; i++) {
            x.dough(30);
        }
        check.due("eight pans", x.pans(59, 0), 8);
        check.due("eight pans, too", x.pans(30, 1), 8);
        check.due("four pans", x.pans(60, 1), 4);
    }

    private static void mortgage() {
        GingerRents x = new GingerRents();
        check.due("quarters", x.mortgage(100, 10, 20, 0), 8);
        check.due("paid", x.mortgage(100, 10, 20, 1), 148);
        check.due("400", x.mortgage(400, 0, 1, 0), 400);
        check.due("400 paid", x.mortgage(400, 0, 1, 1), 400);
        check.due("401", x.mortgage(401, 0, 1, 0), -1);
        check.due("401 paid", x.mortgage(401, 0, 1, 1), -1);
        check.due("grows", x.mortgage(9999, 50, 999, 0), -1);
        check.due("stays", x.mortgage(100, 10, 10, 1), -1);
        check.due("upwards: 1 of a hundred of 1 is 1", x.mortgage(1, 1, 1, 0), -1);
        check.due("upwards: paid 2", x.mortgage(1, 1, 2, 1), 2);
        check.due("at once", x.mortgage(999, 0, 999, 0), 1);
        check.due("one more", x.mortgage(1000, 0, 999, 0), 2);
        check.due("the most", x.mortgage(9999, 0, 999, 0), 11);
        check.due("the most a quarter", x.mortgage(100, 50, 999, 1), 150);
        check.due("the last less", x.mortgage(1000, 0, 999, 1), 1000);
        int[][] wrong = {{0, 0, 1, 0}, {10000, 0, 999, 0}, {1, -1, 9, 0}, {1, 51, 9, 0}, {1, 0, 0, 0}, {1, 0, 1000, 0}, {1, 0, 1, 2}, {1, 0, 1, -1}};
        for (int[] w : wrong) {
            check.due("mortgage " + w[0] + " " + w[1] + " " + w[2] + " " + w[3], x.mortgage(w[0], w[1], w[2], w[3]), -1);
        }
    }

    private static void tape() {
        GingerRents x = new GingerRents();
        check.due("0", x.mark(0), -1);
        check.due("61", x.mark(61), -1);
        check.due("-2", x.mark(-2), -1);
        int[] marks = {60, 1, 60, 7, 3};
        for (int i = 0; i < 5; i++) {
            check.due("mark " + i, x.mark(marks[i]), i + 1);
        }
        check.due("a sixth", x.mark(2), -1);
        // 60 1 7 3; 59 53 57 6 2 4
        check.due("measures", x.measures(0), 10);
        check.due("the least that is not", x.measures(1), 5);
        check.due("what 2", x.measures(2), -1);
        check.due("what -1", x.measures(-1), -1);
        check.due("none then", x.mark(-1), 0);
        check.due("nothing", x.measures(0), 0);
        check.due("not even 1", x.measures(1), 1);
    }

    private static void teeth() {
        GingerRents x = new GingerRents();
        check.due("256", x.bite(256, 0), -1);
        check.due("-2", x.bite(-2, 0), -1);
        check.due("wide 10", x.bite(1, 10), -1);
        check.due("wide -1", x.bite(1, -1), -1);
        for (int i = 0; i < 8; i++) {
            check.due("bite " + i, x.bite(255 - (1 << i), i), i + 1);
        }
        check.due("a ninth", x.bite(0, 0), -1);
        check.due("all", x.whose(0, 0), 255);
        check.due("one tooth", x.whose(4, 0), 251);
        check.due("as wide", x.whose(4, 5), 224);
        check.due("all teeth", x.whose(255, 0), 0);
        check.due("256", x.whose(256, 0), -1);
        check.due("-1", x.whose(-1, 0), -1);
        check.due("wide 10", x.whose(0, 10), -1);
        check.due("wide -1", x.whose(0, -1), -1);
        check.due("wide 9", x.whose(0, 9), 0);
        check.due("none then, however wide", x.bite(-1, 99), 0);
        check.due("nobody's", x.whose(0, 0), 0);
        check.due("no tooth at all", x.bite(0, 0), 1);
        check.due("all teeth", x.bite(255, 9), 2);
        check.due("both", x.whose(0, 0), 3);
    }

    private static void crumbs() {
        GingerRents x = new GingerRents();
        check.due("4", x.crumb(4), -1);
        check.due("-2", x.crumb(-2), -1);
        int[] ways = {0, 0, 1, 2, 2, 3, 0, 3, 3, 3, 2, 1, 1, 1, 1, 2};
        for (int i = 0; i < 16; i++) {
            check.due("crumb " + i, x.crumb(ways[i]), i + 1);
        }
        check.due("a seventeenth", x.crumb(0), -1);
        // (0 0) four times, (0 1) and (1 0) twice: it ends at east 1, south 1.
        check.due("home", x.crumbs(0), 2);
        check.due("crossed", x.crumbs(1), 3);
        check.due("what 2", x.crumbs(2), -1);
        check.due("what -1", x.crumbs(-1), -1);
        check.due("none then", x.crumb(-1), 0);
        check.due("at home", x.crumbs(0), 0);
        check.due("not crossed", x.crumbs(1), 0);
        x.crumb(3);
        x.crumb(3);
        x.crumb(2);
        check.due("apart", x.crumbs(0), 3);
        check.due("no place twice", x.crumbs(1), 0);
        x.crumb(0);
        x.crumb(2);
        x.crumb(0);
        check.due("two places, one of them three times", x.crumbs(1), 2);
    }

    private static void ovens() {
        GingerRents x = new GingerRents();
        check.due("0 1", x.loaf(0, 1), -1);
        check.due("31 1", x.loaf(31, 1), -1);
        check.due("1 0", x.loaf(1, 0), -1);
        check.due("1 31", x.loaf(1, 31), -1);
        check.due("-2 1", x.loaf(-2, 1), -1);
        int[][] loaves = {{5, 2}, {1, 6}, {9, 7}, {3, 8}, {10, 4}, {30, 30}};
        for (int i = 0; i < 5; i++) {
            check.due("loaf " + i, x.loaf(loaves[i][0], loaves[i][1]), i + 1);
        }
        // Johnson's order is 1 3 2 4 0: done in minute 30.
        check.due("minute", x.ovens(0), 30);
        check.due("no sixth", x.ovens(15), -1);
        check.due("the sixth", x.loaf(30, 30), 6);
        check.due("a seventh", x.loaf(1, 1), -1);
        for (int what : new int[] {-1, 1, 9, 16, 17, Integer.MAX_VALUE, Integer.MIN_VALUE}) {
            check.due("ovens " + what, x.ovens(what), -1);
        }
        check.due("none then", x.loaf(-1, 0), 0);
        check.due("minute 0", x.ovens(0), 0);
        check.due("no first", x.ovens(10), -1);
        x.loaf(2, 2);
        x.loaf(2, 2);
        x.loaf(2, 2);
        check.due("alike: minute", x.ovens(0), 8);
        for (int i = 0; i < 3; i++) {
            check.due("alike: the first order " + i, x.ovens(10 + i), i);
        }
        x.loaf(1, 5);
        check.due("minute", x.ovens(0), 12);
        check.due("first", x.ovens(10), 3);
        check.due("then as told", x.ovens(11), 0);
        check.due("last", x.ovens(13), 2);
    }

    private static void heirs() {
        GingerRents x = new GingerRents();
        check.due("alike", x.heir(3, 3), -1);
        check.due("12", x.heir(12, 0), -1);
        check.due("of 12", x.heir(0, 12), -1);
        check.due("of -1", x.heir(0, -1), -1);
        check.due("-2", x.heir(-2, 0), -1);
        for (int i = 0; i < 11; i++) {
            check.due("heir " + i, x.heir(i, i + 1), i + 1);
        }
        check.due("steps", x.line(0, 0), 11);
        check.due("who", x.line(0, 1), 11);
        check.due("of the last", x.line(11, 0), 0);
        check.due("himself", x.line(11, 1), 11);
        check.due("told first", x.heir(5, 0), 12);
        check.due("as before", x.line(5, 0), 6);
        check.due("a thirteenth", x.heir(11, 0), -1);
        for (int who : new int[] {-1, 12}) {
            check.due("line of " + who, x.line(who, 0), -1);
        }
        check.due("what 2", x.line(0, 2), -1);
        check.due("what -1", x.line(0, -1), -1);
        check.due("none then", x.heir(-1, -1), 0);
        check.due("nobody", x.line(0, 0), 0);
        for (int i = 0; i < 12; i++) {
            x.heir(i, (i + 1) % 12);
        }
        check.due("a round of twelve", x.line(4, 0), -1);
        check.due("who of a round", x.line(4, 1), -1);
        x.heir(-1, 0);
        x.heir(0, 1);
        x.heir(1, 2);
        x.heir(2, 1);
        check.due("into a round", x.line(0, 0), -1);
    }

    private static void window() {
        GingerRents x = new GingerRents();
        check.due("0", x.window(0), -1);
        check.due("21", x.window(21), -1);
        check.due("-1", x.window(-1), -1);
        for (int n = 1; n <= 20; n++) {
            check.due("window " + n, x.window(n), ways(n, false));
        }
    }

    private static int ways(int n, boolean afterThree) {
        if (n <= 0) {
            return n == 0 ? 1 : 0;
        }
        return ways(n - 1, false) + ways(n - 2, false) + (afterThree ? 0 : ways(n - 3, true));
    }

    private static void council() {
        GingerRents x = new GingerRents();
        check.due("4096", x.member(4096, 1), -1);
        check.due("-2", x.member(-2, 1), -1);
        check.due("weight 0", x.member(1, 0), -1);
        check.due("weight 10", x.member(1, 10), -1);
        check.due("one", x.member(4095, 1), 1);
        check.due("alone agrees", x.council(0), 4095);
        check.due("alone is enough", x.council(1), 1);
        check.due("two", x.member(1, 1), 2);
        check.due("half is not more than half", x.council(0), 1);
        check.due("both", x.council(1), 2);
        check.due("three", x.member(2048, 9), 3);
        check.due("by weight", x.council(0), 2048);
        check.due("one is enough", x.council(1), 1);
        for (int i = 4; i <= 8; i++) {
            check.due("member " + i, x.member(6, 3), i);
        }
        check.due("a ninth", x.member(0, 1), -1);
        // 26 in all: 1 + 1 + 9 + 5 times 3.
        check.due("agreed", x.council(0), 6);
        check.due("9 and 3 and 3", x.council(1), 3);
        check.due("what 2", x.council(2), -1);
        check.due("what -1", x.council(-1), -1);
        check.due("none then", x.member(-1, -1), 0);
        check.due("nothing", x.council(0), 0);
        check.due("nobody", x.council(1), 0);
        check.due("who wants nothing", x.member(0, 5), 1);
        check.due("nothing is agreed", x.council(0), 0);
    }

    private static void game() {
        GingerRents x = new GingerRents();
        int[][] wrong = {{0, 1}, {6, 1}, {1, 0}, {1, 7}, {-1, 3}, {1, 1}};
        for (int[] w : wrong) {
            check.due("game " + w[0] + " " + w[1], x.game(w[0], w[1]), -1);
        }
        for (int n = 2; n <= 5; n++) {
            check.due("square", x.game(n, n), 11);
            check.due("one row", x.game(1, n), 1);
            check.due("one column", x.game(n, 1), 10);
            check.due("two rows", x.game(2, n), n == 2 ? 11 : 10 + n - 1);
        }
        // What is left is 4 2 2, which loses: 3 1 1, 2 1 and 1 do, and each bite goes on to what wins.
        check.due("3 high, 4 long", x.game(3, 4), 12);
        check.due("one row of 6", x.game(1, 6), 1);
    }

    private static void nothingIsForgotten() {
        GingerRents x = new GingerRents();
        x.quarters(1);
        x.piece(1);
        x.dough(1);
        x.mark(1);
        x.bite(1, 1);
        x.crumb(1);
        x.loaf(1, 1);
        x.heir(1, 2);
        x.member(1, 1);
        x.piece(-1);
        check.due("what is told for thought forgets nothing", x.look(13), 1);
        check.due("undo", x.undo(), true);
        check.due("and stays", x.dough(1), 2);
    }
}
