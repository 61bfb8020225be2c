/** Term 4, undoing and the image, and promises 38 and 39: each sentence of the document that names a boundary, alone. */
public final class BackEdgesTest {
    private static final Check check = new Check();

    public static void main(String[] args) {
        sixAreKept();
        sixOfManyQuarters();
        eachGoesBack();
        stateAndBookGoBack();
        latestNotUndoneYet();
        nothingToUndo();
        othersForget();
        lawNextAndThoughtsDoNot();
        refusedCallsDoNot();
        asksDoNot();
        takingDoesNot();
        noImage();
        imageOfTheBorough();
        imageOfWhatWasTold();
        imageWithoutTapeAndFault();
        imageWithoutUndo();
        backMoreThanOnce();
        imageTakenAgain();
        imageOfAnEmptyBorough();
        check.finish("BackEdgesTest");
    }

    private static void sixAreKept() {
        check.says("6 are kept");
        GingerRents x = Check.quiet(1, 99);
        for (int i = 1; i <= 8; i++) {
            x.act(0, 0, 1);
            check.due("can be undone behind " + i, x.look(13), Math.min(6, i));
        }
        for (int i = 5; i >= 0; i--) {
            check.due("undo", x.undo(), true);
            check.due("left", x.look(13), i);
        }
        check.due("a seventh", x.undo(), false);
        check.due("two are eaten yet", x.look(3), 2);
        check.due("the wall", x.of(0, 0), 97);
    }

    private static void sixOfManyQuarters() {
        check.says("the latest QUARTER");
        GingerRents x = Check.quiet(1, 99);
        x.quarters(60);
        check.due("six of sixty", x.look(13), 6);
        for (int i = 59; i >= 54; i--) {
            check.due("undo", x.undo(), true);
            check.due("quarter", x.look(5), i);
        }
        check.due("no seventh", x.undo(), false);
        check.due("54 yet", x.look(5), 54);
    }

    private static GingerRents busy() {
        GingerRents x = new GingerRents();
        x.house(5, 1, 2);
        x.house(9, 3, 4);
        x.house(2, 3, 4);
        Check.tell(x, 0, "rent 3;gnaws 700;melts rain;");
        Check.tell(x, 1, "in 0 rain 1;in 1 frost;");
        Check.tell(x, 2, "in 0 wed 1;in 0 raze 2;");
        Check.tell(x, 3, "house 0 next 1;house 1 next 2;");
        x.state(12345);
        return x;
    }

    private static void eachGoesBack() {
        check.says("the latest QUARTER, NIBBLE, BAKING, WEDDING, MOVE, RAZING not undone yet goes back");
        int[][] acts = {{-1, 0, 0}, {2, 0, 5}, {13, 1, 99}, {20, 0, 0}, {21, 0, 1}, {22, 1, 0}};
        for (int[] act : acts) {
            GingerRents x = busy();
            String before = Digest.borough(x);
            check.due("act " + act[0], act[0] < 0 ? x.quarters(1) >= 0 : x.act(act[0], act[1], act[2]), true);
            check.due("one can be undone", x.look(13), 1);
            check.due("undo", x.undo(), true);
            check.due("all as it was", Digest.borough(x), before);
        }
    }

    private static void stateAndBookGoBack() {
        check.says("goes back (STATE, THE BOOK, too)");
        GingerRents x = busy();
        x.quarters(1);
        int state = x.look(8);
        int lines = x.look(7);
        String before = Digest.borough(x);
        x.quarters(1);
        check.holds("rats have drawn", x.look(8) != state);
        check.holds("lines were written", x.look(7) > lines);
        x.undo();
        check.due("state", x.look(8), state);
        check.due("lines", x.look(7), lines);
        check.due("a line of it", x.book(lines, 0), -2);
        check.due("all as it was", Digest.borough(x), before);
        x.quarters(1);
        x.undo();
        check.due("the same draws again, and back", Digest.borough(x), before);
    }

    private static void latestNotUndoneYet() {
        check.says("the latest QUARTER, NIBBLE, BAKING, WEDDING, MOVE, RAZING not undone yet");
        GingerRents x = Check.quiet(1, 50);
        x.act(0, 0, 1);
        x.act(0, 0, 2);
        x.undo();
        x.act(0, 0, 4);
        x.act(0, 0, 8);
        x.undo();
        x.undo();
        check.due("1 is nibbled", x.of(0, 0), 49);
        check.due("undo", x.undo(), true);
        check.due("none is", x.of(0, 0), 50);
        check.due("no more", x.undo(), false);
        for (int i = 0; i < 7; i++) {
            x.act(1, 0, 1);
        }
        x.undo();
        x.undo();
        x.quarters(4);
        check.due("six", x.look(13), 6);
        for (int i = 0; i < 6; i++) {
            x.undo();
        }
        check.due("the third of seven is the first that goes back", x.of(0, 1), 47);
        check.due("no quarter", x.look(5), 0);
        check.due("no more of them", x.undo(), false);
    }

    private static void nothingToUndo() {
        check.says("UNDO: true; false if there is nothing.");
        check.due("of a new one", new GingerRents().undo(), false);
        GingerRents x = Check.quiet(1, 9);
        String before = Digest.borough(x);
        check.due("undo", x.undo(), false);
        check.due("all as it was", Digest.borough(x), before);
        x.quarters(1);
        check.due("one", x.undo(), true);
        check.due("no second", x.undo(), false);
        check.due("all as it was again", Digest.borough(x), before);
    }

    /** What can be undone behind a call, when it was three before. */
    private static int leftBehind(String call) {
        GingerRents x = Check.quiet(2, 20);
        x.image(true);
        x.quarters(2);
        x.act(0, 0, 1);
        switch (call) {
            case "state" -> x.state(0);
            case "house" -> x.house(0, 0, 0);
            case "wall" -> x.set(0, 0, 19);
            case "almonds" -> x.set(4, 0, 0);
            case "teeth" -> x.set(5, 0, 0);
            case "hard" -> x.set(6, 0, 0);
            case "lodgers" -> x.set(7, 0, 1);
            case "rain" -> x.set(8, 0, 0);
            case "sky" -> Check.tell(x, 1, "in 0 thaw;");
            case "no sky" -> x.text(1);
            case "office" -> Check.tell(x, 2, "in 0 wed 0;");
            case "no office" -> x.text(2);
            case "back" -> x.image(false);
            case "law" -> Check.tell(x, 0, "rent 1;");
            case "no law" -> x.text(0);
            case "next" -> Check.tell(x, 3, "house 0 next 1;");
            case "no next" -> x.text(3);
            case "plate" -> x.piece(x.piece(1) - 2);
            case "pans" -> x.dough(x.dough(1) - 2);
            case "marks" -> x.mark(x.mark(1) - 2);
            case "teeth of bites" -> x.bite(x.bite(1, 1) - 2, 0);
            case "crumbs" -> x.crumb(x.crumb(1) - 2);
            case "ovens" -> x.loaf(x.loaf(1, 1) - 2, 0);
            case "left" -> x.heir(x.heir(1, 2) - 2, 0);
            case "council" -> x.member(x.member(1, 1) - 2, 0);
            case "feed" -> x.feed(0, 0, 0, 0, 0);
            case "end" -> x.end(0);
            case "taking" -> x.image(true);
            default -> throw new IllegalArgumentException(call);
        }
        return x.look(13);
    }

    private static void othersForget() {
        check.says("whatever else is told but THE LAW, NEXT and what is told for thought");
        for (String call : new String[] {"state", "house", "wall", "almonds", "teeth", "hard", "lodgers", "rain", "sky", "no sky", "office",
            "no office", "back"}) {
            check.due(call, leftBehind(call), 0);
        }
        GingerRents x = Check.quiet(1, 9);
        x.quarters(1);
        x.state(0);
        check.due("nothing to undo", x.undo(), false);
        check.due("quarter", x.look(5), 1);
    }

    private static void lawNextAndThoughtsDoNot() {
        check.says("but THE LAW, NEXT and what is told for thought (PLATE, PANS, TAPE, TEETH, CRUMBS, OVENS, LEFT, COUNCIL)");
        for (String call : new String[] {"law", "no law", "next", "no next", "plate", "pans", "marks", "teeth of bites", "crumbs", "ovens", "left",
            "council", "feed", "end"}) {
            check.due(call, leftBehind(call), 3);
        }
        GingerRents x = Check.quiet(2, 9);
        x.quarters(1);
        Check.tell(x, 0, "rent 77;");
        Check.tell(x, 3, "house 0 next 1;");
        x.dough(9);
        x.undo();
        check.due("the law stays", x.of(0, 11), 77);
        check.due("next stays", x.of(0, 12), 2);
        check.due("what is told for thought stays", x.dough(9), 2);
    }

    private static void refusedCallsDoNot() {
        check.says("whatever else is told");
        GingerRents x = Check.quiet(2, 20);
        x.quarters(2);
        x.act(20, 0, 0);
        x.house(100, 0, 0);
        x.house(0, 10, 0);
        x.set(0, 2, 1);
        x.set(0, 0, 100);
        x.set(8, 0, 10);
        x.set(9, 0, 0);
        x.act(20, 0, 0);
        x.act(21, 0, 0);
        x.quarters(0);
        x.quarters(61);
        Check.tell(x, 1, "in");
        Check.tell(x, 2, "in");
        Check.tell(x, 4, "in");
        x.image(false);
        check.due("what is refused is not told", x.look(13), 3);
    }

    private static void asksDoNot() {
        check.says("UNDO: the latest");
        GingerRents x = Check.quiet(2, 20);
        x.quarters(3);
        Digest.borough(x);
        Digest.thoughts(x);
        x.goes(60, 0);
        x.stands(0);
        x.hears(0, 1);
        x.heard(0, 5);
        x.ants(0, 1);
        x.alone(1);
        x.mortgage(5, 1, 2, 0);
        x.window(5);
        x.game(5, 6);
        check.due("what is asked forgets nothing", x.look(13), 3);
    }

    private static void takingDoesNot() {
        check.says("(the taking of THE IMAGE does not) forgets them");
        check.due("taking", leftBehind("taking"), 3);
        GingerRents x = Check.quiet(1, 9);
        x.quarters(3);
        x.image(true);
        check.due("undo", x.undo(), true);
        check.due("quarter", x.look(5), 2);
        x.image(false);
        check.due("the image is of quarter 3", x.look(5), 3);
    }

    private static void noImage() {
        check.says("THE IMAGE is taken (true), or gone back to (false): true; false if there is none.");
        GingerRents x = Check.quiet(1, 9);
        x.quarters(1);
        String before = Digest.borough(x);
        check.due("none", x.image(false), false);
        check.due("all as it was, and can be undone", Digest.borough(x), before);
        check.due("taken", x.image(true), true);
        check.due("gone back to", x.image(false), true);
    }

    private static void imageOfTheBorough() {
        check.says("THE IMAGE: all that is and was told");
        GingerRents x = busy();
        String before = Digest.borough(x);
        x.image(true);
        x.quarters(5);
        x.house(50, 5, 5);
        x.act(20, 3, 0);
        x.set(8, 0, 9);
        x.state(99);
        check.due("back", x.image(false), true);
        check.due("all as it was", Digest.borough(x), before);
        check.due("house 3 anew", x.house(7, 1, 1), 3);
        check.due("no door", x.of(3, 9), 0);
    }

    private static void tellThoughts(GingerRents x, int v) {
        x.piece(v);
        x.dough(v);
        x.mark(v);
        x.bite(v, v);
        x.crumb(v);
        x.loaf(v, v);
        x.heir(v - 1, v);
        x.member(v, v);
    }

    private static void imageOfWhatWasTold() {
        check.says("all that is and was told");
        GingerRents x = busy();
        tellThoughts(x, 1);
        String before = Digest.borough(x) + Digest.thoughts(x);
        x.image(true);
        for (int k = 0; k < 4; k++) {
            check.due("no text " + k, x.text(k), 0);
        }
        tellThoughts(x, 2);
        x.image(false);
        check.due("all as it was", Digest.borough(x) + Digest.thoughts(x), before);
    }

    private static void imageWithoutTapeAndFault() {
        check.says("but the TAPE of texts, fault() and what can be undone (nothing then)");
        GingerRents x = busy();
        Check.put(x, "rent 1;");
        x.image(true);
        x.end(0);
        Check.tell(x, 0, "rent 1/0;");
        Check.put(x, "rent 42;");
        x.image(false);
        check.due("the fault is the latest", x.fault(0), 2);
        check.due("its place", x.fault(1), 7);
        check.due("the tape is as it is", x.text(0), 1);
        check.due("its text", x.of(0, 11), 42);
    }

    private static void imageWithoutUndo() {
        check.says("what can be undone (nothing then)");
        GingerRents x = busy();
        x.quarters(3);
        x.image(true);
        check.due("three before", x.look(13), 3);
        x.image(false);
        check.due("nothing then", x.look(13), 0);
        check.due("undo", x.undo(), false);
        check.due("quarter", x.look(5), 3);
    }

    private static void backMoreThanOnce() {
        check.says("gone back to it may be more than once");
        GingerRents x = Check.quiet(1, 50);
        x.image(true);
        for (int i = 0; i < 3; i++) {
            x.quarters(2);
            x.act(0, 0, 5 + i);
            x.dough(9);
            check.due("back", x.image(false), true);
            check.due("quarter", x.look(5), 0);
            check.due("wall", x.of(0, 0), 50);
            check.due("book", x.look(7), 0);
            check.due("pans", x.pans(60, 0), 0);
        }
    }

    private static void imageTakenAgain() {
        check.says("as it was when it was taken");
        GingerRents x = Check.quiet(1, 50);
        x.image(true);
        x.quarters(1);
        x.image(true);
        x.quarters(1);
        x.image(false);
        check.due("the later one", x.look(5), 1);
        x.image(false);
        check.due("the later one again", x.look(5), 1);
    }

    private static void imageOfAnEmptyBorough() {
        check.says("THE IMAGE is taken (true)");
        GingerRents x = new GingerRents();
        check.due("taken", x.image(true), true);
        x.house(9, 0, 0);
        x.house(9, 0, 0);
        Check.tell(x, 3, "house 0 next 1;");
        Check.tell(x, 2, "in 0 wed 1;");
        check.due("back", x.image(false), true);
        check.due("empty", Digest.borough(x), "look 0 0 0 0 0 0 0 0 0 0 0 0 0 0 | fault 0 -1");
        check.due("a quarter", x.quarters(1), 0);
    }
}
