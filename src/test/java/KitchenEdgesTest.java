import java.util.function.IntUnaryOperator;

/** Term 4, what is told for thought, and promises 18 to 30 and 32 to 37: each sentence of the document that names a boundary, alone. */
public final class KitchenEdgesTest {
    private static final Check check = new Check();
    private static final int LEAST = Check.LEAST;
    private static final int MOST = Check.MOST;

    public static void main(String[] args) {
        pieceUpTo();
        pieceBounds();
        plateOneAtLeast();
        plateTheFirst();
        plateOfOne();
        plateMoreThanPieces();
        plateOfAllPieces();
        doughUpTo();
        doughBounds();
        pansBounds();
        pansOneIsGreater();
        pansFewest();
        pansByTheFirst();
        pansAreEmptyEachTime();
        mortgageAnotherWhat();
        mortgageDebtBounds();
        mortgageRateBounds();
        mortgagePayBounds();
        mortgageUpwards();
        mortgageNotByFourHundred();
        mortgageLastLess();
        markUpTo();
        markBounds();
        measuresBetween();
        measuresAnotherWhat();
        measuresLeast();
        biteBounds();
        biteUpTo();
        whoseBounds();
        whoseAllTeethAndWide();
        crumbUpTo();
        crumbBounds();
        crumbsAnotherWhat();
        crumbsHome();
        crumbsCrossed();
        loafBounds();
        loafUpTo();
        ovensOfNone();
        ovensNoneSuch();
        ovensOneAtATime();
        ovensFirstOrder();
        heirBounds();
        heirUpTo();
        heirFirstTold();
        lineBounds();
        lineOnARound();
        lineOfAll();
        windowBounds();
        windowFromOneToTwenty();
        windowNoTwoOfThree();
        memberBounds();
        memberUpTo();
        councilMoreThanHalf();
        councilLeast();
        councilOfNone();
        gameBounds();
        gameWhoBeginsLoses();
        gameTheLeast();
        check.finish("KitchenEdgesTest");
    }

    /** Tells up to a most, is refused then, tells none and begins anew. */
    private static void upTo(int most, IntUnaryOperator tell, int good) {
        for (int i = 1; i <= most; i++) {
            check.due("told " + i, tell.applyAsInt(good), i);
        }
        check.due("one more", tell.applyAsInt(good), -1);
        check.due("and again", tell.applyAsInt(good), -1);
        check.due("none is then", tell.applyAsInt(-1), 0);
        check.due("none of none", tell.applyAsInt(-1), 0);
        check.due("the first anew", tell.applyAsInt(good), 1);
        tell.applyAsInt(-1);
    }

    private static void refused(IntUnaryOperator tell, int... bad) {
        for (int v : bad) {
            check.due("told " + v, tell.applyAsInt(v), -1);
        }
    }

    private static void another(IntUnaryOperator ask, int... whats) {
        for (int what : whats) {
            check.due("what " + what, ask.applyAsInt(what), -1);
        }
    }

    private static void pieceUpTo() {
        check.says("A piece of the PLATE (NONE: none is then): how many; NONE if one can't be, or there are nine.");
        upTo(9, new GingerRents()::piece, 99);
    }

    private static void pieceBounds() {
        check.says("PLATE: up to 9 told pieces (0 .. 99) in a row");
        GingerRents x = new GingerRents();
        refused(x::piece, LEAST, -2, 100, MOST);
        check.due("nothing is there", x.plate(1, 0), -1);
        check.due("0", x.piece(0), 1);
        refused(x::piece, -2, 100);
        check.due("99", x.piece(99), 2);
        check.due("both", x.plate(1, 0), 99);
    }

    private static GingerRents plate(int... pieces) {
        GingerRents x = new GingerRents();
        for (int v : pieces) {
            x.piece(v);
        }
        return x;
    }

    private static void plateOneAtLeast() {
        check.says("cut for k (1 .. 9) side by side, each one piece at least: the cut whose least share is most: that");
        GingerRents x = plate(1, 0, 0, 9);
        check.due("two", x.plate(2, 0), 1);
        check.due("three", x.plate(3, 0), 0);
        check.due("four", x.plate(4, 0), 0);
        GingerRents y = plate(4, 4, 4, 1, 1, 1, 1, 8);
        check.due("three: 4 4 | 4 1 1 1 1 | 8", y.plate(3, 0), 8);
        check.due("six: 4 | 4 | 4 | 1 1 | 1 1 | 8", y.plate(6, 0), 2);
    }

    private static void plateTheFirst() {
        check.says("where the second share begins (of several the first");
        GingerRents x = plate(5, 0, 0, 5);
        check.due("behind the first piece", x.plate(2, 1), 1);
        GingerRents y = plate(0, 0, 7, 7, 7);
        check.due("not before 7", y.plate(2, 1), 3);
        check.due("7", y.plate(2, 0), 7);
        check.due("all nothing", plate(0, 0, 0).plate(3, 1), 1);
        check.due("the last there is", plate(1, 1, 1, 1, 1, 1, 1, 1, 99).plate(2, 1), 8);
    }

    private static void plateOfOne() {
        check.says("k 1: NONE)");
        check.due("of nine: the share", plate(99, 99, 99, 99, 99, 99, 99, 99, 99).plate(1, 0), 891);
        check.due("of nine: where", plate(99, 99, 99, 99, 99, 99, 99, 99, 99).plate(1, 1), -1);
        check.due("of one: the share", plate(7).plate(1, 0), 7);
        check.due("of one: where", plate(7).plate(1, 1), -1);
        check.due("of nothing: where", plate(0, 0, 0).plate(1, 1), -1);
    }

    private static void plateMoreThanPieces() {
        check.says("PLATE what 0 the least share, 1 where. NONE if k can't be (more than pieces), or another what.");
        for (int n = 0; n <= 9; n++) {
            GingerRents x = new GingerRents();
            for (int i = 0; i < n; i++) {
                x.piece(3);
            }
            for (int k : new int[] {LEAST, -1, 0, n + 1, 10, MOST}) {
                check.due(k + " of " + n, x.plate(k, 0), -1);
                check.due(k + " of " + n + " where", x.plate(k, 1), -1);
            }
            if (n > 0) {
                int all = n;
                check.due(n + " of " + n, x.plate(n, 0), 3);
                another(what -> x.plate(1, what), LEAST, -1, 2, MOST);
                another(what -> x.plate(all, what), LEAST, -1, 2, MOST);
            }
        }
    }

    private static void plateOfAllPieces() {
        check.says("PLATE: up to 9 told pieces (0 .. 99) in a row");
        GingerRents x = plate(9, 8, 7, 6, 5, 6, 7, 8, 9);
        check.due("nine shares: the least piece", x.plate(9, 0), 5);
        check.due("nine shares: where", x.plate(9, 1), 1);
        check.due("eight shares: 9 | 8 | 7 | 6 5 | 6 | 7 | 8 | 9", x.plate(8, 0), 6);
    }

    private static void doughUpTo() {
        check.says("A house for PANS (NONE: none is then): how many; NONE if one can't be, or there are eight.");
        upTo(8, new GingerRents()::dough, 30);
    }

    private static void doughBounds() {
        check.says("PANS: up to 8 told houses (1 .. 30)");
        GingerRents x = new GingerRents();
        refused(x::dough, LEAST, -2, 0, 31, MOST);
        check.due("nothing is there", x.pans(1, 0), 0);
        check.due("1", x.dough(1), 1);
        refused(x::dough, 0, 31);
        check.due("30", x.dough(30), 2);
    }

    private static GingerRents doughs(int... sizes) {
        GingerRents x = new GingerRents();
        for (int v : sizes) {
            x.dough(v);
        }
        return x;
    }

    private static void pansBounds() {
        check.says("into pans of c (1 .. 60)");
        GingerRents x = doughs(1, 1);
        for (int c : new int[] {LEAST, -1, 0, 61, MOST}) {
            check.due("fewest of " + c, x.pans(c, 0), -1);
            check.due("by the first of " + c, x.pans(c, 1), -1);
        }
        check.due("of 1", x.pans(1, 0), 2);
        check.due("of 60", x.pans(60, 0), 1);
        check.due("of 60 by the first", x.pans(60, 1), 1);
        another(what -> x.pans(1, what), LEAST, -1, 2, MOST);
        check.due("no house: no pan", new GingerRents().pans(60, 0), 0);
        check.due("no house: no pan by the first", new GingerRents().pans(1, 1), 0);
        check.due("no house, none of 0", new GingerRents().pans(0, 0), -1);
        check.due("no house, none of 61", new GingerRents().pans(61, 1), -1);
    }

    private static void pansOneIsGreater() {
        check.says("NONE if one is greater than c, c can't be, or another what.");
        GingerRents x = doughs(5, 12, 3);
        check.due("of 11", x.pans(11, 0), -1);
        check.due("of 11 by the first", x.pans(11, 1), -1);
        check.due("of 12", x.pans(12, 0), 2);
        check.due("of 12 by the first", x.pans(12, 1), 2);
        check.due("the first is greater", doughs(30, 1).pans(29, 0), -1);
        check.due("the last is greater", doughs(1, 30).pans(29, 0), -1);
        check.due("as great", doughs(1, 30).pans(30, 0), 2);
    }

    private static void pansFewest() {
        check.says("the fewest pans");
        check.due("8 alone", doughs(30, 30, 30, 30, 30, 30, 30, 30).pans(59, 0), 8);
        check.due("8 by twos", doughs(30, 30, 30, 30, 30, 30, 30, 30).pans(60, 0), 4);
        check.due("full to the brim", doughs(4, 4, 4, 6, 6, 6).pans(10, 0), 3);
        check.due("one too small", doughs(4, 4, 4, 6, 6, 6).pans(9, 0), 5);
        check.due("all in one", doughs(1, 2, 3, 4, 5, 6, 7, 8).pans(36, 0), 1);
        check.due("not quite", doughs(1, 2, 3, 4, 5, 6, 7, 8).pans(35, 0), 2);
    }

    private static void pansByTheFirst() {
        check.says("of how many pans by the first that has room, in the order told");
        check.due("4 4 | 4 6 | 6 | 6", doughs(4, 4, 4, 6, 6, 6).pans(10, 1), 4);
        check.due("just room", doughs(6, 4, 6, 4).pans(10, 1), 2);
        check.due("not just", doughs(6, 5, 6, 6).pans(10, 1), 4);
        check.due("the first, not the last: 6 | 5 | and 4 to 6", doughs(6, 5, 4, 5).pans(10, 1), 2);
        check.due("8 alone", doughs(30, 30, 30, 30, 30, 30, 30, 30).pans(59, 1), 8);
    }

    private static void pansAreEmptyEachTime() {
        check.says("PANS what 0 the fewest, 1 by the first that has room.");
        GingerRents x = doughs(4, 4, 4, 6, 6, 6);
        for (int i = 0; i < 3; i++) {
            check.due("by the first of 10", x.pans(10, 1), 4);
            check.due("fewest of 10", x.pans(10, 0), 3);
            check.due("by the first of 60", x.pans(60, 1), 1);
            check.due("fewest of 6", x.pans(6, 0), 6);
            check.due("by the first of 6", x.pans(6, 1), 6);
            check.due("fewest of 60", x.pans(60, 0), 1);
        }
        for (int i = 0; i < 3; i++) {
            check.due("of 60 again", x.pans(60, 1), 1);
            check.due("of 10 again", x.pans(10, 1), 4);
            check.due("of 12 again: 4 4 4 | 6 6 | 6", x.pans(12, 1), 3);
        }
        x.dough(-1);
        x.dough(30);
        check.due("other houses then", x.pans(30, 1), 1);
        check.due("other houses then: fewest", x.pans(30, 0), 1);
    }

    private static void mortgageAnotherWhat() {
        check.says("MORTGAGE what 0 QUARTERS, 1 paid. NONE, too, if one can't be, or another what.");
        GingerRents x = new GingerRents();
        another(what -> x.mortgage(1, 0, 1, what), LEAST, -1, 2, MOST);
        check.due("all of it can't be", x.mortgage(0, -1, 0, 2), -1);
    }

    private static void mortgageDebtBounds() {
        check.says("MORTGAGE of d (1 .. 9999)");
        GingerRents x = new GingerRents();
        for (int d : new int[] {LEAST, -1, 0, 10000, MOST}) {
            check.due("quarters of " + d, x.mortgage(d, 0, 999, 0), -1);
            check.due("paid of " + d, x.mortgage(d, 0, 999, 1), -1);
        }
        check.due("the least", x.mortgage(1, 0, 999, 1), 1);
        check.due("the most", x.mortgage(9999, 0, 999, 1), 9999);
        check.due("the most: quarters", x.mortgage(9999, 0, 999, 0), 11);
    }

    private static void mortgageRateBounds() {
        check.says("r (0 .. 50 of a hundred a quarter, upwards)");
        GingerRents x = new GingerRents();
        for (int r : new int[] {LEAST, -1, 51, 100, MOST}) {
            check.due("quarters at " + r, x.mortgage(1, r, 999, 0), -1);
            check.due("paid at " + r, x.mortgage(1, r, 999, 1), -1);
        }
        check.due("the least", x.mortgage(100, 0, 999, 1), 100);
        check.due("the most", x.mortgage(100, 50, 999, 1), 150);
        check.due("the most, once", x.mortgage(666, 50, 999, 0), 1);
        check.due("the most, twice", x.mortgage(667, 50, 999, 0), 2);
    }

    private static void mortgagePayBounds() {
        check.says("p (1 .. 999 paid each quarter behind it)");
        GingerRents x = new GingerRents();
        for (int p : new int[] {LEAST, -1, 0, 1000, MOST}) {
            check.due("quarters by " + p, x.mortgage(1, 0, p, 0), -1);
            check.due("paid by " + p, x.mortgage(1, 0, p, 1), -1);
        }
        check.due("the least", x.mortgage(3, 0, 1, 0), 3);
        check.due("the most", x.mortgage(1998, 0, 999, 0), 2);
        check.due("behind the rate: 100 is 110 then", x.mortgage(100, 10, 110, 0), 1);
        check.due("behind the rate: one too few", x.mortgage(100, 10, 109, 0), 2);
    }

    private static void mortgageUpwards() {
        check.says("r (0 .. 50 of a hundred a quarter, upwards)");
        GingerRents x = new GingerRents();
        check.due("100 at 1: 101", x.mortgage(100, 1, 999, 1), 101);
        check.due("101 at 1: 103", x.mortgage(101, 1, 999, 1), 103);
        check.due("199 at 1: 201", x.mortgage(199, 1, 999, 1), 201);
        check.due("1 at 1: 2", x.mortgage(1, 1, 999, 1), 2);
        check.due("1 at 50: 2", x.mortgage(1, 50, 999, 1), 2);
        check.due("2 at 50: 3", x.mortgage(2, 50, 999, 1), 3);
        check.due("1 at 0: 1", x.mortgage(1, 0, 999, 1), 1);
        check.due("1 at 1 by 1 stays 1", x.mortgage(1, 1, 1, 0), -1);
    }

    private static void mortgageNotByFourHundred() {
        check.says("behind how many QUARTERS it is paid (NONE: not by 400)");
        GingerRents x = new GingerRents();
        check.due("399", x.mortgage(399, 0, 1, 0), 399);
        check.due("400", x.mortgage(400, 0, 1, 0), 400);
        check.due("401", x.mortgage(401, 0, 1, 0), -1);
        check.due("401 paid", x.mortgage(401, 0, 1, 1), -1);
        check.due("800 by 2", x.mortgage(800, 0, 2, 0), 400);
        check.due("grows", x.mortgage(9999, 50, 1, 0), -1);
        check.due("grows: paid", x.mortgage(9999, 50, 1, 1), -1);
        check.due("stays", x.mortgage(100, 10, 10, 0), -1);
        // One less each quarter down to 90, then two less, three less ..: 10 + 5 + 4 + 2 + 2 + 2 + 2 + 3 quarters.
        check.due("shrinks", x.mortgage(100, 10, 11, 0), 30);
    }

    private static void mortgageLastLess() {
        check.says("how much was paid (the last less)");
        GingerRents x = new GingerRents();
        check.due("less than once", x.mortgage(998, 0, 999, 1), 998);
        check.due("once", x.mortgage(999, 0, 999, 1), 999);
        check.due("once and one", x.mortgage(1000, 0, 999, 1), 1000);
        check.due("10 times and 9", x.mortgage(9999, 0, 999, 1), 9999);
        check.due("100 at 10 by 20", x.mortgage(100, 10, 20, 1), 148);
    }

    private static void markUpTo() {
        check.says("A mark of the TAPE for measuring (NONE: none is then): how many; NONE if one can't be, or there are five.");
        upTo(5, new GingerRents()::mark, 60);
    }

    private static void markBounds() {
        check.says("TAPE: up to 5 told marks (1 .. 60)");
        GingerRents x = new GingerRents();
        refused(x::mark, LEAST, -2, 0, 61, MOST);
        check.due("nothing is there", x.measures(0), 0);
        check.due("1", x.mark(1), 1);
        refused(x::mark, 0, 61);
        check.due("60", x.mark(60), 2);
        check.due("1, 59, 60", x.measures(0), 3);
    }

    private static GingerRents marks(int... marks) {
        GingerRents x = new GingerRents();
        for (int v : marks) {
            x.mark(v);
        }
        return x;
    }

    private static void measuresBetween() {
        check.says("MEASURES: how many lengths 1 .. 60 are between two marks or from 0 to one");
        check.due("none", marks().measures(0), 0);
        check.due("one", marks(60).measures(0), 1);
        check.due("the same twice measures nothing more", marks(60, 60).measures(0), 1);
        check.due("5 and 10: 5, 10", marks(5, 10).measures(0), 2);
        check.due("10 and 5: 5, 10", marks(10, 5).measures(0), 2);
        check.due("1 2 60: 1 2 58 59 60", marks(1, 2, 60).measures(0), 5);
        check.due("five that measure all they can", marks(1, 4, 10, 12, 17).measures(0), 15);
    }

    private static void measuresAnotherWhat() {
        check.says("MEASURES what 0 how many, 1 the least that is not. NONE for another what.");
        another(marks(1)::measures, LEAST, -1, 2, MOST);
    }

    /** No five marks measure all of 60: NONE is never due. */
    private static void measuresLeast() {
        check.says("the least length that is not (NONE)");
        check.due("none", marks().measures(1), 1);
        check.due("1", marks(1).measures(1), 2);
        check.due("60", marks(60).measures(1), 1);
        check.due("1 4 6: all up to 6", marks(1, 4, 6).measures(1), 7);
        check.due("1 2 6 10 13: all up to 13", marks(1, 2, 6, 10, 13).measures(1), 14);
    }

    private static void biteBounds() {
        check.says("TEETH: told bites, up to 8 (a set of 8 teeth and 0 .. 9 wide)");
        GingerRents x = new GingerRents();
        refused(v -> x.bite(v, 0), LEAST, -2, 256, MOST);
        refused(v -> x.bite(0, v), LEAST, -2, -1, 10, MOST);
        check.due("nothing is there", x.whose(0, 0), 0);
        check.due("no tooth, not wide", x.bite(0, 0), 1);
        check.due("all teeth, wide", x.bite(255, 9), 2);
    }

    private static void biteUpTo() {
        check.says("A bite (teeth NONE: none is then; 8 bits): how many; NONE if one can't be, or there are eight.");
        GingerRents x = new GingerRents();
        upTo(8, v -> x.bite(v, 9), 255);
        for (int wide : new int[] {LEAST, -1, 10, MOST}) {
            x.bite(1, 1);
            check.due("none is then, as wide as " + wide, x.bite(-1, wide), 0);
            check.due("nobody's", x.whose(0, 0), 0);
        }
    }

    private static void whoseBounds() {
        check.says("WHOSE, as a set; NONE if one can't be.");
        GingerRents x = new GingerRents();
        x.bite(255, 9);
        for (int teeth : new int[] {LEAST, -1, 256, MOST}) {
            check.due("teeth " + teeth, x.whose(teeth, 0), -1);
        }
        for (int wide : new int[] {LEAST, -1, 10, MOST}) {
            check.due("wide " + wide, x.whose(0, wide), -1);
        }
        check.due("the least", x.whose(0, 0), 1);
        check.due("the most", x.whose(255, 9), 1);
    }

    private static void whoseAllTeethAndWide() {
        check.says("told ones that have all its teeth, and as wide at least: a set");
        GingerRents x = new GingerRents();
        for (int i = 0; i < 8; i++) {
            x.bite(1 << i | 1, i + 1);
        }
        check.due("no tooth: all", x.whose(0, 0), 255);
        check.due("as wide as 8: the eighth", x.whose(0, 8), 128);
        check.due("as wide as 7: two", x.whose(1, 7), 192);
        check.due("wider", x.whose(0, 9), 0);
        check.due("one tooth of two", x.whose(4, 3), 4);
        check.due("not as wide", x.whose(4, 4), 0);
        check.due("two teeth", x.whose(129, 0), 128);
        check.due("two that none has", x.whose(6, 0), 0);
        check.due("all teeth", x.whose(255, 0), 0);
    }

    private static void crumbUpTo() {
        check.says("A step of CRUMBS (NONE: none is then): how many; NONE if one can't be, or there are sixteen.");
        upTo(16, new GingerRents()::crumb, 3);
    }

    private static void crumbBounds() {
        check.says("CRUMBS: up to 16 told steps (0 .. 3: north, east, south, west)");
        GingerRents x = new GingerRents();
        refused(x::crumb, LEAST, -2, 4, MOST);
        check.due("at home", x.crumbs(0), 0);
        int[] home = {1, 2, 1, 0};
        for (int way = 0; way <= 3; way++) {
            check.due("way " + way, x.crumb(way), way + 1);
            check.due("home from there", x.crumbs(0), home[way]);
        }
    }

    private static void crumbsAnotherWhat() {
        check.says("CRUMBS what 0 HOME, 1 CROSSED. NONE for another what.");
        another(crumbs(0)::crumbs, LEAST, -1, 2, MOST);
    }

    private static GingerRents crumbs(int... ways) {
        GingerRents x = new GingerRents();
        for (int way : ways) {
            x.crumb(way);
        }
        return x;
    }

    private static void crumbsHome() {
        check.says("HOME: how far it is back (east and north apart, added)");
        for (int way = 0; way < 4; way++) {
            GingerRents x = new GingerRents();
            for (int i = 1; i <= 16; i++) {
                x.crumb(way);
            }
            x.crumb(way);
            check.due("16 steps of way " + way, x.crumbs(0), 16);
        }
        check.due("none", crumbs().crumbs(0), 0);
        check.due("there and back", crumbs(0, 2).crumbs(0), 0);
        check.due("there and back of the others", crumbs(3, 1).crumbs(0), 0);
        check.due("round the corner", crumbs(2, 2, 3).crumbs(0), 3);
    }

    private static void crumbsCrossed() {
        check.says("CROSSED: how many places were stood on more than once (the first, too)");
        check.due("none", crumbs().crumbs(1), 0);
        check.due("one step", crumbs(0).crumbs(1), 0);
        check.due("there and back: the first", crumbs(0, 2).crumbs(1), 1);
        check.due("there, back, there", crumbs(0, 2, 0).crumbs(1), 2);
        check.due("three times counts once", crumbs(0, 2, 0, 2).crumbs(1), 2);
        check.due("sixteen steps on two places", crumbs(1, 3, 1, 3, 1, 3, 1, 3, 1, 3, 1, 3, 1, 3, 1, 3).crumbs(1), 2);
        check.due("straight on", crumbs(1, 1, 1, 1, 1, 1, 1, 1, 1, 1, 1, 1, 1, 1, 1, 1).crumbs(1), 0);
        check.due("round, and home by the last step", crumbs(0, 0, 0, 0, 1, 1, 1, 1, 2, 2, 2, 2, 3, 3, 3, 3).crumbs(1), 1);
    }

    private static void loafBounds() {
        check.says("OVENS: up to 6 told loaves (a minutes to bake, b to cool; 1 .. 30)");
        GingerRents x = new GingerRents();
        refused(v -> x.loaf(v, 1), LEAST, -2, 0, 31, MOST);
        refused(v -> x.loaf(1, v), LEAST, -2, -1, 0, 31, MOST);
        check.due("nothing is there", x.ovens(0), 0);
        check.due("1 and 1", x.loaf(1, 1), 1);
        check.due("30 and 30", x.loaf(30, 30), 2);
        check.due("the minute", x.ovens(0), 61);
    }

    private static void loafUpTo() {
        check.says("A loaf for OVENS (bakes NONE: none is then): how many; NONE if one can't be, or there are six.");
        GingerRents x = new GingerRents();
        upTo(6, v -> x.loaf(v, 30), 30);
        for (int cools : new int[] {LEAST, -1, 0, 31, MOST}) {
            x.loaf(1, 1);
            check.due("none is then, cooling " + cools, x.loaf(-1, cools), 0);
            check.due("nothing to do", x.ovens(0), 0);
        }
    }

    private static void ovensOfNone() {
        check.says("OVENS what 0 the minute (none: 0)");
        GingerRents x = new GingerRents();
        check.due("the minute", x.ovens(0), 0);
        x.loaf(1, 1);
        check.due("of one", x.ovens(0), 2);
        x.loaf(-1, 0);
        check.due("none again", x.ovens(0), 0);
    }

    private static void ovensNoneSuch() {
        check.says("10 + i the i-th. NONE if there is none such, or another what.");
        GingerRents x = new GingerRents();
        for (int n = 0; n <= 6; n++) {
            for (int i = 0; i < 7; i++) {
                if (i >= n) {
                    check.due("the " + i + "-th of " + n, x.ovens(10 + i), -1);
                }
            }
            another(x::ovens, LEAST, -1, 1, 9, 10 + n, 20, MOST);
            x.loaf(30, 30);
        }
        for (int i = 0; i < 6; i++) {
            check.due("the " + i + "-th of six alike", x.ovens(10 + i), i);
        }
    }

    private static void ovensOneAtATime() {
        check.says("one bakes at a time, one cools at a time behind it: the order by which all is done first: the minute");
        GingerRents x = new GingerRents();
        x.loaf(30, 1);
        check.due("one", x.ovens(0), 31);
        x.loaf(1, 30);
        // 1 to bake, then 30 to bake while the first cools for 30: the other is done at 32.
        check.due("two", x.ovens(0), 32);
        check.due("the second first", x.ovens(10), 1);
        x.loaf(-1, 0);
        for (int i = 0; i < 6; i++) {
            x.loaf(30, 30);
        }
        check.due("six of the longest", x.ovens(0), 210);
    }

    private static void ovensFirstOrder() {
        check.says("the i-th (of several orders the first)");
        GingerRents x = new GingerRents();
        x.loaf(3, 3);
        x.loaf(2, 9);
        x.loaf(3, 3);
        x.loaf(9, 1);
        // 2 to bake and 16 to cool at least: 1 goes first, 3 may bake while the others cool.
        int[] order = {1, 0, 2, 3};
        check.due("the minute", x.ovens(0), 18);
        for (int i = 0; i < 4; i++) {
            check.due("the " + i + "-th", x.ovens(10 + i), order[i]);
        }
        x.loaf(-1, 0);
        x.loaf(4, 5);
        x.loaf(1, 5);
        x.loaf(2, 1);
        // 1 0 2 and 1 2 0 are both done at 12.
        check.due("the minute of three", x.ovens(0), 12);
        int[] three = {1, 0, 2};
        for (int i = 0; i < 3; i++) {
            check.due("of three the " + i + "-th", x.ovens(10 + i), three[i]);
        }
    }

    private static void heirBounds() {
        check.says("LEFT: told heirs, up to 12 (0 .. 11 lives in what 0 .. 11 left");
        GingerRents x = new GingerRents();
        refused(v -> x.heir(v, 1), LEAST, -2, 12, MOST);
        refused(v -> x.heir(1, v), LEAST, -2, -1, 12, MOST);
        check.due("nothing is there", x.line(1, 0), 0);
        check.due("11 of 0", x.heir(11, 0), 1);
        check.due("0 of 10", x.heir(0, 10), 2);
        check.due("10 of 9", x.heir(10, 9), 3);
        check.due("from 11 on", x.line(11, 0), 3);
    }

    private static void heirUpTo() {
        check.says("An heir (who NONE: none is then): how many; NONE if one can't be (alike), or there are twelve.");
        GingerRents x = new GingerRents();
        for (int i = 0; i < 12; i++) {
            check.due("alike " + i, x.heir(i, i), -1);
        }
        upTo(12, v -> x.heir(v, 11), 0);
        for (int whose : new int[] {LEAST, -1, 12, MOST}) {
            x.heir(1, 2);
            check.due("none is then, of " + whose, x.heir(-1, whose), 0);
            check.due("no line", x.line(1, 0), 0);
        }
    }

    private static void heirFirstTold() {
        check.says("of several for one the first told");
        GingerRents x = new GingerRents();
        x.heir(0, 1);
        x.heir(0, 2);
        x.heir(0, 1);
        check.due("the first told", x.line(0, 1), 1);
        x.heir(-1, 0);
        x.heir(0, 2);
        x.heir(0, 1);
        check.due("the first told then", x.line(0, 1), 2);
    }

    private static void lineBounds() {
        check.says("LINE of 0 .. 11 what 0 steps, 1 who. NONE on a round, if one can't be, or another what.");
        GingerRents x = new GingerRents();
        x.heir(0, 11);
        for (int who : new int[] {LEAST, -1, 12, MOST}) {
            check.due("steps of " + who, x.line(who, 0), -1);
            check.due("who of " + who, x.line(who, 1), -1);
        }
        another(what -> x.line(0, what), LEAST, -1, 2, MOST);
        check.due("steps of 0", x.line(0, 0), 1);
        check.due("who of 0", x.line(0, 1), 11);
        check.due("steps of 11", x.line(11, 0), 0);
        check.due("who of 11", x.line(11, 1), 11);
    }

    private static void lineOnARound() {
        check.says("(NONE: a round)");
        GingerRents x = new GingerRents();
        x.heir(0, 1);
        x.heir(1, 0);
        x.heir(2, 1);
        x.heir(3, 4);
        for (int what = 0; what <= 1; what++) {
            check.due("on the round", x.line(0, what), -1);
            check.due("into the round", x.line(2, what), -1);
        }
        check.due("beside the round", x.line(3, 0), 1);
        x.heir(-1, 0);
        for (int i = 0; i < 12; i++) {
            x.heir(i, (i + 1) % 12);
        }
        check.due("a round of all", x.line(5, 0), -1);
        check.due("a round of all: who", x.line(5, 1), -1);
    }

    private static void lineOfAll() {
        check.says("from whom to whom on to the first one");
        GingerRents x = new GingerRents();
        for (int i = 0; i < 11; i++) {
            x.heir(i, i + 1);
        }
        check.due("the longest there is", x.line(0, 0), 11);
        check.due("who", x.line(0, 1), 11);
        check.due("the last but one", x.line(10, 0), 1);
    }

    private static void windowBounds() {
        check.says("WINDOW; NONE if n can't be.");
        another(new GingerRents()::window, LEAST, -20, -1, 0, 21, 22, MOST);
    }

    private static void windowFromOneToTwenty() {
        check.says("WINDOW of n (1 .. 20) panes by almonds that cover 1, 2 or 3 side by side");
        GingerRents x = new GingerRents();
        for (int n = 1; n <= 20; n++) {
            check.due("window " + n, x.window(n), ways(n, false));
        }
    }

    private static int ways(int n, boolean afterThree) {
        if (n <= 0) {
            return n == 0 ? 1 : 0;
        }
        return ways(n - 1, false) + ways(n - 2, false) + (afterThree ? 0 : ways(n - 3, true));
    }

    private static void windowNoTwoOfThree() {
        check.says("no two of 3 side by side: in how many ways");
        // Without the rule 1 2 4 7 13 24; of 6 one way has two of 3 side by side.
        int[] due = {1, 2, 4, 7, 13, 23};
        GingerRents x = new GingerRents();
        for (int n = 1; n <= 6; n++) {
            check.due("window " + n, x.window(n), due[n - 1]);
        }
        // Of 7, 44 without it; 3 3 1 and 1 3 3 have two.
        check.due("window 7", x.window(7), 42);
    }

    private static void memberBounds() {
        check.says("COUNCIL of 12 bits, up to 8 told members (a set of what each wants; a weight 1 .. 9)");
        GingerRents x = new GingerRents();
        refused(v -> x.member(v, 1), LEAST, -2, 4096, MOST);
        refused(v -> x.member(1, v), LEAST, -2, -1, 0, 10, MOST);
        check.due("nobody is there", x.council(1), 0);
        check.due("wants nothing", x.member(0, 1), 1);
        check.due("wants all", x.member(4095, 9), 2);
        check.due("all is agreed", x.council(0), 4095);
    }

    private static void memberUpTo() {
        check.says("A member of COUNCIL (wants NONE: none is then): how many; NONE if one can't be (12 bits), or there are eight.");
        GingerRents x = new GingerRents();
        upTo(8, v -> x.member(v, 9), 4095);
        for (int weight : new int[] {LEAST, -1, 0, 10, MOST}) {
            x.member(1, 1);
            check.due("none is then, of weight " + weight, x.member(-1, weight), 0);
            check.due("nobody", x.council(1), 0);
        }
    }

    private static GingerRents council(int... wantsAndWeights) {
        GingerRents x = new GingerRents();
        for (int i = 0; i < wantsAndWeights.length; i += 2) {
            x.member(wantsAndWeights[i], wantsAndWeights[i + 1]);
        }
        return x;
    }

    private static void councilMoreThanHalf() {
        check.says("AGREED: what members of more than half of all weights want: a set");
        check.due("half is not enough", council(1, 4, 2, 4).council(0), 0);
        check.due("one more is", council(1, 5, 2, 4).council(0), 1);
        check.due("of an odd weight", council(3, 1, 1, 1, 2, 1).council(0), 3);
        check.due("by weight, not by heads", council(1, 1, 1, 1, 2, 3).council(0), 2);
        check.due("the lowest and the highest bit", council(2049, 9).council(0), 2049);
        check.due("72 in all: 36 is half", council(1, 9, 1, 9, 1, 9, 1, 9, 0, 9, 0, 9, 0, 9, 0, 9).council(0), 0);
        check.due("71 in all: 36 is more", council(1, 9, 1, 9, 1, 9, 1, 9, 0, 9, 0, 9, 0, 9, 0, 8).council(0), 1);
    }

    private static void councilLeast() {
        check.says("LEAST: the fewest members whose weights are more than half: how many");
        check.due("one of one", council(0, 1).council(1), 1);
        check.due("half is not enough", council(0, 4, 0, 4).council(1), 2);
        check.due("one more is", council(0, 5, 0, 4).council(1), 1);
        check.due("the heaviest first", council(0, 1, 0, 1, 0, 1, 0, 4).council(1), 1);
        check.due("with half: one more", council(0, 1, 0, 1, 0, 1, 0, 3).council(1), 2);
        check.due("eight alike", council(0, 9, 0, 9, 0, 9, 0, 9, 0, 9, 0, 9, 0, 9, 0, 9).council(1), 5);
    }

    private static void councilOfNone() {
        check.says("COUNCIL what 0 AGREED, 1 LEAST (no member: 0). NONE for another what.");
        GingerRents x = new GingerRents();
        check.due("agreed", x.council(0), 0);
        check.due("least", x.council(1), 0);
        another(x::council, LEAST, -1, 2, MOST);
        x.member(4095, 9);
        x.member(-1, 0);
        check.due("agreed by none again", x.council(0), 0);
        check.due("least of none again", x.council(1), 0);
    }

    private static void gameBounds() {
        check.says("GAME of a slab (1 .. 5 high, 1 .. 6 long)");
        GingerRents x = new GingerRents();
        for (int bad : new int[] {LEAST, -1, 0, 6, 7, MOST}) {
            check.due(bad + " high", x.game(bad, 2), -1);
        }
        for (int bad : new int[] {LEAST, -1, 0, 7, 8, MOST}) {
            check.due(bad + " long", x.game(2, bad), -1);
        }
        check.due("the highest", x.game(5, 1), 10);
        check.due("the longest", x.game(1, 6), 1);
        check.holds("the largest", x.game(5, 6) >= 0);
    }

    private static void gameWhoBeginsLoses() {
        check.says("GAME; NONE if who begins loses, or one can't be.");
        GingerRents x = new GingerRents();
        for (int high = 1; high <= 5; high++) {
            for (int far = 1; far <= 6; far++) {
                check.due("who begins loses " + high + " " + far, x.game(high, far) < 0, high == 1 && far == 1);
            }
        }
    }

    private static void gameTheLeast() {
        check.says("the bite (10 times row and column from 0; of several the least) who begins well takes");
        GingerRents x = new GingerRents();
        check.due("a row: all but the lowest left one", x.game(1, 2), 1);
        check.due("a column: all but the lowest left one", x.game(2, 1), 10);
        for (int n = 2; n <= 5; n++) {
            check.due("a square: what leaves a row and a column alike", x.game(n, n), 11);
        }
        for (int far = 2; far <= 6; far++) {
            check.due("two rows: the upper one shorter by one", x.game(2, far), 10 + far - 1);
        }
        for (int high = 3; high <= 5; high++) {
            check.due("two columns: the right one lower by one", x.game(high, 2), 10 * (high - 1) + 1);
        }
        // What is left is 4 2 2, which loses.
        check.due("3 high, 4 long", x.game(3, 4), 12);
    }
}
