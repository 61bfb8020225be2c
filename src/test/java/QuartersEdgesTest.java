/** Term 3, a quarter and the book, and promises 6 and 12: each sentence of the document that names a boundary, alone. */
public final class QuartersEdgesTest {
    private static final Check check = new Check();
    private static final int LEAST = Check.LEAST;
    private static final int MOST = Check.MOST;

    public static void main(String[] args) {
        skyOfThatQuarter();
        skyOfTheLastQuarter();
        iceAtLeast();
        bakeAtMost();
        officeAsByHand();
        officeOfTheLastQuarter();
        rentOfWhoStandsWithLodgers();
        nibbledFromTheThickest();
        owedIsIced();
        eatenAsNibbled();
        gonePaidToTheLast();
        goneToTheFirst();
        goneToTheStreet();
        asManyMoreThere();
        goneBeforeTheNextPays();
        gnawedWallsAboveNothing();
        gnawsOfNothingDraws();
        gnawedBelowTheDraw();
        meltsAtLeast();
        meltsWithoutFrost();
        hardAtMost();
        leftAtTheEnd();
        ageOfWhatStands();
        bookIsFull();
        bookIsFullWithinAQuarter();
        bookOfTheLastQuarter();
        linesOnlyAboveNothing();
        howMuch();
        linesOfGoneAndWed();
        quartersBounds();
        quartersRefusedDoNothing();
        quartersAboveTheMost();
        fallenByRentRatsRain();
        fallenByOthers();
        bookNoneSuch();
        bookAnotherWhat();
        check.finish("QuartersEdgesTest");
    }

    private static void walls(GingerRents x, int house, int a, int b, int c, int d) {
        int[] due = {a, b, c, d};
        for (int w = 0; w < 4; w++) {
            check.due("wall " + w + " of house " + house, x.of(house, w), due[w]);
        }
    }

    private static void skyOfThatQuarter() {
        check.says("(a) Line by line of SKY for it: rain: RAIN is N; frost, thaw: FROST is 1, 0.");
        GingerRents x = new GingerRents();
        Check.tell(x, 1, "in 1 rain 9;in 0 rain 3;in 1 frost;in 3 thaw;in 2 rain 5;in 2 rain 0;in 3 frost;in 4 frost;in 4 thaw;");
        int[] rain = {3, 9, 0, 0, 0, 0};
        int[] frost = {0, 1, 1, 1, 0, 0};
        for (int i = 0; i < rain.length; i++) {
            x.quarters(1);
            check.due("rain of quarter " + i, x.look(1), rain[i]);
            check.due("frost of quarter " + i, x.look(2), frost[i]);
        }
    }

    private static void skyOfTheLastQuarter() {
        check.says("(QUARTER 0 .. 999; N 0 .. 9.)");
        GingerRents x = new GingerRents();
        Check.tell(x, 1, "in 999 rain 9;in 998 rain 1;");
        for (int i = 0; i < 16; i++) {
            x.quarters(60);
        }
        x.quarters(38);
        check.due("before 998", x.look(1), 0);
        x.quarters(1);
        check.due("behind 998", x.look(1), 1);
        x.quarters(1);
        check.due("behind 999", x.look(1), 9);
        x.set(8, 0, 2);
        x.quarters(60);
        check.due("no line for later ones", x.look(1), 2);
    }

    /** A house that fell and owes 5. */
    private static GingerRents iced() {
        GingerRents x = Check.quiet(1, 1);
        Check.tell(x, 0, "rent 9;gnaws 0;melts 0;");
        x.quarters(1);
        check.due("icing", x.of(0, 8), 5);
        return x;
    }

    private static void iceAtLeast() {
        check.says("ice: ICING N less (0 at least)");
        int[] less = {1, 4, 5, 6, 99};
        int[] due = {4, 1, 0, 0, 0};
        for (int i = 0; i < less.length; i++) {
            GingerRents x = iced();
            Check.tell(x, 2, "in 1 ice 0 " + less[i] + ";");
            x.quarters(1);
            check.due(less[i] + " less", x.of(0, 8), due[i]);
            x.quarters(1);
            check.due("once", x.of(0, 8), due[i]);
            walls(x, 0, 0, 0, 0, 0);
        }
        GingerRents x = iced();
        Check.tell(x, 2, "in 1 ice 0 5;in 2 ice 0 1;");
        x.quarters(2);
        check.due("less than nothing", x.of(0, 8), 0);
    }

    private static void bakeAtMost() {
        check.says("bake: a WALL N more (99 at most)");
        int[] wall = {97, 98, 98, 99, 0, 50};
        int[] more = {1, 1, 2, 1, 99, 99};
        int[] due = {98, 99, 99, 99, 99, 99};
        for (int i = 0; i < wall.length; i++) {
            for (int w = 0; w < 4; w++) {
                GingerRents x = Check.quiet(1, 7);
                x.set(w, 0, wall[i]);
                Check.tell(x, 2, "in 0 bake 0 " + w + " " + more[i] + ";");
                x.quarters(1);
                check.due(wall[i] + " and " + more[i], x.of(0, w), due[i]);
                check.due("the next is as it was", x.of(0, (w + 1) % 4), 7);
                check.due("no line", x.look(7), 0);
            }
        }
    }

    private static void officeAsByHand() {
        check.says("wed, raze: as by hand.");
        GingerRents x = Check.quiet(4, 20);
        x.set(7, 0, 0);
        Check.walls(x, 1, 0, 0, 0, 0);
        Check.tell(x, 2, "in 0 wed 0;in 0 wed 1;in 0 wed 2;in 0 wed 2;in 0 raze 1;in 0 raze 3;in 0 raze 3;in 0 wed 3;");
        check.due("none falls by (c), (d), (e)", x.quarters(1), 0);
        check.due("no lodgers: no door", x.of(0, 9), 0);
        walls(x, 0, 20, 20, 20, 20);
        check.due("no wall: no door", x.of(1, 9), 0);
        check.due("wed", x.of(2, 9), 1);
        check.due("once", x.of(2, 7), 2);
        walls(x, 2, 10, 20, 20, 20);
        check.due("razed: no door", x.of(3, 9), 0);
        walls(x, 3, 0, 0, 0, 0);
        // Who lived in house 1, which did not stand, goes at the end of the quarter alone.
        check.due("lines", x.look(7), 3);
        check.line(x, 0, 5, 2, 2);
        check.line(x, 1, 4, 3, -1);
        check.line(x, 2, 4, 1, -1);
        check.due("one quarter can be undone, no more", x.look(13), 1);
    }

    private static void officeOfTheLastQuarter() {
        check.says("(b) Line by line of OFFICE for it");
        GingerRents x = Check.quiet(1, 0);
        Check.tell(x, 2, "in 999 bake 0 1 9;in 1 bake 0 0 1;in 0 bake 0 0 3;in 0 raze 0;in 0 bake 0 0 4;");
        x.quarters(1);
        walls(x, 0, 4, 0, 0, 0);
        x.quarters(1);
        walls(x, 0, 5, 0, 0, 0);
        for (int i = 0; i < 16; i++) {
            x.quarters(60);
        }
        x.quarters(37);
        walls(x, 0, 5, 0, 0, 0);
        x.quarters(1);
        walls(x, 0, 5, 9, 0, 0);
    }

    private static void rentOfWhoStandsWithLodgers() {
        check.says("(c) HOUSE by HOUSE that stands and has LODGERS: rent is asked");
        GingerRents x = Check.quiet(3, 9);
        Check.walls(x, 0, 0, 0, 0, 0);
        x.set(7, 1, 0);
        Check.tell(x, 0, "rent 3;gnaws 0;melts 0;");
        x.quarters(1);
        check.due("one that does not stand owes nothing", x.of(0, 8), 0);
        walls(x, 1, 9, 9, 9, 9);
        walls(x, 2, 8, 8, 8, 9);
        check.due("eaten", x.look(3), 3);
    }

    private static void nibbledFromTheThickest() {
        check.says("so much is nibbled, one by one, each time from the thickest WALL (of several the least)");
        int[] rent = {0, 1, 4, 5, 3};
        int[][] from = {{3, 3, 3, 3}, {3, 3, 3, 3}, {3, 3, 3, 3}, {3, 3, 3, 3}, {1, 3, 2, 3}};
        int[][] due = {{3, 3, 3, 3}, {2, 3, 3, 3}, {2, 2, 2, 2}, {1, 2, 2, 2}, {1, 1, 2, 2}};
        for (int i = 0; i < rent.length; i++) {
            GingerRents x = Check.quiet(1, 0);
            Check.walls(x, 0, from[i][0], from[i][1], from[i][2], from[i][3]);
            Check.tell(x, 0, "rent " + rent[i] + ";gnaws 0;melts 0;");
            x.quarters(1);
            walls(x, 0, due[i][0], due[i][1], due[i][2], due[i][3]);
        }
    }

    /** A house of four walls of 2, of which a rent is nibbled. */
    private static GingerRents paid(int rent) {
        GingerRents x = Check.quiet(1, 2);
        Check.tell(x, 0, "rent " + rent + ";gnaws 0;melts 0;");
        x.quarters(1);
        return x;
    }

    private static void owedIsIced() {
        check.says("is there no WALL left, what is yet owed is more ICING");
        check.due("one less than there is", paid(7).of(0, 8), 0);
        check.due("all there is", paid(8).of(0, 8), 0);
        check.due("one more than there is", paid(9).of(0, 8), 1);
        check.due("the most", paid(99).of(0, 8), 91);
        check.due("a line of it", paid(9).book(1, 1), 1);
        GingerRents x = paid(9);
        x.act(10, 0, 2);
        x.set(7, 0, 1);
        x.quarters(1);
        check.due("more icing", x.of(0, 8), 8);
    }

    private static void eatenAsNibbled() {
        check.says("EATEN as much as was nibbled");
        check.due("less than all", paid(7).look(3), 7);
        check.due("all", paid(8).look(3), 8);
        check.due("no more than all", paid(99).look(3), 8);
        check.due("nothing", paid(0).look(3), 0);
    }

    private static void gonePaidToTheLast() {
        check.says("stands it no more: its LODGERS go");
        GingerRents x = paid(7);
        check.due("one crumb is enough", x.of(0, 7), 1);
        walls(x, 0, 0, 0, 0, 1);
        GingerRents y = paid(8);
        check.due("none is not", y.of(0, 7), 0);
        check.due("lines", y.look(7), 2);
        check.line(y, 0, 0, 0, 8);
        check.line(y, 1, 4, 0, -1);
        GingerRents z = paid(9);
        check.due("lines when iced", z.look(7), 3);
        check.line(z, 2, 4, 0, -1);
    }

    private static void goneToTheFirst() {
        check.says("its LODGERS go to the first HOUSE by number that is NEXT to it and stands");
        GingerRents x = Check.quiet(5, 2);
        Check.walls(x, 1, 0, 0, 0, 0);
        x.set(7, 1, 0);
        x.set(4, 4, 1);
        // 0 is not next, 1 does not stand, 3 is told before 2.
        Check.tell(x, 3, "house 4 next 3;house 2 next 4;house 4 next 1;house 0 next 1;");
        Check.tell(x, 0, "rent 8 when almonds=1;rent 0;gnaws 0;melts 0;");
        x.quarters(1);
        int[] due = {1, 0, 2, 1, 0};
        for (int h = 0; h < 5; h++) {
            check.due("lodgers of " + h, x.of(h, 7), due[h]);
        }
        check.line(x, 1, 4, 4, 2);
    }

    private static void goneToTheStreet() {
        check.says("or are on the street");
        GingerRents x = Check.quiet(3, 2);
        Check.walls(x, 1, 0, 0, 0, 0);
        x.set(7, 1, 0);
        x.set(7, 0, 7);
        x.set(4, 0, 1);
        Check.tell(x, 3, "house 0 next 1;");
        Check.tell(x, 0, "rent 8 when almonds=1;rent 0;gnaws 0;melts 0;");
        check.due("in thought, too", x.goes(1, 3), 1);
        x.quarters(1);
        check.due("none of them is left", x.of(0, 7) + x.of(1, 7) + x.of(2, 7), 1);
        check.line(x, 1, 4, 0, -1);
    }

    private static void asManyMoreThere() {
        check.says("(LODGERS 0, there as many more)");
        GingerRents x = Check.quiet(2, 2);
        x.set(7, 0, 99);
        x.set(7, 1, 99);
        x.set(4, 0, 1);
        Check.tell(x, 3, "house 1 next 0;");
        Check.tell(x, 0, "rent 8 when almonds=1;rent 0;gnaws 0;melts 0;");
        x.quarters(1);
        check.due("nobody here", x.of(0, 7), 0);
        check.due("all there", x.of(1, 7), 198);
    }

    private static void goneBeforeTheNextPays() {
        check.says("HOUSE by HOUSE that stands and has LODGERS: rent is asked");
        GingerRents x = Check.quiet(3, 9);
        Check.walls(x, 1, 1, 0, 0, 0);
        x.set(7, 1, 4);
        Check.tell(x, 3, "house 1 next 2;");
        Check.tell(x, 0, "rent lodgers;gnaws 0;melts 0;");
        x.quarters(1);
        // 0 pays 1; 1 has 1 of 4 and goes; 2 pays for five then.
        walls(x, 0, 8, 9, 9, 9);
        walls(x, 2, 7, 8, 8, 8);
        check.due("lines", x.look(7), 5);
        check.line(x, 3, 4, 1, 2);
        check.line(x, 4, 0, 2, 5);
        GingerRents y = Check.quiet(2, 9);
        Check.walls(y, 1, 1, 0, 0, 0);
        y.set(7, 1, 4);
        Check.tell(y, 3, "house 1 next 0;");
        Check.tell(y, 0, "rent lodgers;gnaws 0;melts 0;");
        y.quarters(1);
        check.due("who came to house 0 behind its rent pays the next one", y.look(3), 2);
        check.due("lodgers of house 0", y.of(0, 7), 5);
        y.quarters(1);
        check.due("the next one", y.look(3), 7);
    }

    private static int drawn(int state, int times) {
        int s = state;
        for (int i = 0; i < times; i++) {
            s = 1664525 * s + 1013904223;
        }
        return s;
    }

    private static void gnawedWallsAboveNothing() {
        check.says("(d) HOUSE by HOUSE: WALL by WALL above 0: gnaws is asked");
        GingerRents x = Check.quiet(3, 0);
        Check.walls(x, 1, 0, 1, 0, 2);
        x.set(7, 1, 0);
        Check.tell(x, 0, "rent 0;gnaws 1000;melts 0;");
        x.quarters(1);
        check.due("two draws, without lodgers, too", x.look(8), drawn(0, 2));
        walls(x, 1, 0, 0, 0, 1);
        check.due("gnawed", x.look(4), 2);
        x.quarters(2);
        check.due("one draw more, then none", x.look(8), drawn(0, 3));
        check.due("gnawed in all", x.look(4), 3);
    }

    private static void gnawsOfNothingDraws() {
        check.says("is it above 0, a DRAW of 1000");
        GingerRents x = Check.quiet(1, 5);
        x.state(42);
        x.quarters(1);
        check.due("gnaws 0: none", x.look(8), 42);
        Check.tell(x, 0, "rent 0;gnaws 0-1;melts 0;");
        x.quarters(1);
        check.due("gnaws below 0: none", x.look(8), 42);
        Check.tell(x, 0, "rent 0;gnaws 1;melts 0;");
        x.quarters(1);
        check.due("gnaws 1: one for each wall", x.look(8), drawn(42, 4));
    }

    private static void gnawedBelowTheDraw() {
        check.says("below it one less, GNAWED one more");
        // Behind 1000 the draw of 1000 is 614.
        for (int gnaws = 613; gnaws <= 616; gnaws++) {
            GingerRents x = Check.quiet(1, 0);
            x.set(1, 0, 1);
            x.state(1000);
            Check.tell(x, 0, "rent 0;gnaws " + gnaws + ";melts 0;");
            check.due("falls by gnaws " + gnaws, x.quarters(1), gnaws > 614 ? 1 : 0);
            check.due("wall by gnaws " + gnaws, x.of(0, 1), gnaws > 614 ? 0 : 1);
            check.due("gnawed by gnaws " + gnaws, x.look(4), gnaws > 614 ? 1 : 0);
            check.due("lines by gnaws " + gnaws, x.look(7), gnaws > 614 ? 2 : 0);
        }
    }

    private static void meltsAtLeast() {
        check.says("(e) HOUSE by HOUSE: WALL by WALL above 0: is FROST 0: melts is asked: so much less (0 at least)");
        int[] melts = {0, 2, 3, 4, 99};
        int[] due = {3, 1, 0, 0, 0};
        for (int i = 0; i < melts.length; i++) {
            GingerRents x = Check.quiet(1, 0);
            x.set(3, 0, 3);
            Check.tell(x, 0, "rent 0;gnaws 0;melts " + melts[i] + ";");
            x.quarters(1);
            walls(x, 0, 0, 0, 0, due[i]);
            check.due("nothing is gnawed", x.look(4), 0);
            check.due("nothing is eaten", x.look(3), 0);
            if (melts[i] > 0) {
                check.line(x, 0, 3, 0, 3 - due[i]);
            }
        }
    }

    private static void meltsWithoutFrost() {
        check.says("is FROST 0: melts is asked");
        GingerRents x = Check.quiet(1, 9);
        Check.tell(x, 0, "rent 0;gnaws 0;melts 2;");
        Check.tell(x, 1, "in 1 frost;in 2 thaw;");
        x.quarters(1);
        walls(x, 0, 7, 7, 7, 7);
        check.due("no frost: not harder", x.of(0, 6), 0);
        x.quarters(1);
        walls(x, 0, 7, 7, 7, 7);
        check.due("frost: harder", x.of(0, 6), 1);
        x.quarters(1);
        walls(x, 0, 5, 5, 5, 5);
        check.due("thaw: as hard", x.of(0, 6), 1);
    }

    private static void hardAtMost() {
        check.says("Then, is FROST 1, HARD of each that stands one more (9 at most).");
        GingerRents x = Check.quiet(4, 9);
        x.set(6, 0, 8);
        x.set(6, 1, 9);
        Check.walls(x, 2, 0, 0, 0, 0);
        x.set(7, 3, 0);
        Check.tell(x, 1, "in 0 frost;");
        x.quarters(1);
        int[] due = {9, 9, 0, 1};
        for (int h = 0; h < 4; h++) {
            check.due("hard of " + h, x.of(h, 6), due[h]);
        }
        Check.walls(x, 3, 1, 0, 0, 0);
        Check.tell(x, 0, "rent 0;gnaws 1000 when sum=1;gnaws 0;");
        x.quarters(1);
        check.due("who fell in (d) is no harder", x.of(3, 6), 1);
        check.due("9 yet", x.of(0, 6), 9);
    }

    private static void leftAtTheEnd() {
        check.says("(f) HOUSE by HOUSE that does not stand: its LODGERS, if there are some, go as in (c).");
        GingerRents x = Check.quiet(4, 0);
        x.set(0, 3, 9);
        x.set(7, 1, 0);
        x.set(7, 2, 5);
        Check.tell(x, 3, "house 0 next 1;house 2 next 3;house 0 next 2;");
        check.due("none falls", x.quarters(1), 0);
        int[] due = {0, 0, 0, 6};
        for (int h = 0; h < 4; h++) {
            check.due("lodgers of " + h, x.of(h, 7), due[h]);
        }
        check.due("lines", x.look(7), 2);
        check.line(x, 0, 4, 0, -1);
        check.line(x, 1, 4, 2, 3);
        x.quarters(1);
        check.due("no lodgers, no lines", x.look(7), 2);
    }

    private static void ageOfWhatStands() {
        check.says("AGE of each that stands one more. QUARTER is one more.");
        GingerRents x = Check.quiet(3, 1);
        Check.walls(x, 0, 0, 0, 0, 0);
        x.set(4, 1, 1);
        x.set(7, 2, 0);
        Check.tell(x, 0, "rent 4 when almonds=1;rent 0;gnaws 0;melts 0;");
        x.quarters(1);
        check.due("one that did not stand", x.of(0, 10), 0);
        check.due("one that fell in it", x.of(1, 10), 0);
        check.due("one of nobody", x.of(2, 10), 1);
        check.due("quarter", x.look(5), 1);
        x.act(10, 0, 1);
        x.quarters(1);
        check.due("one that stands again", x.of(0, 10), 1);
        check.due("two quarters", x.of(2, 10), 2);
    }

    private static void bookIsFull() {
        check.says("THE BOOK (150 lines; no more then)");
        GingerRents x = Check.quiet(12, 99);
        Check.tell(x, 0, "rent 1;gnaws 0;melts 0;");
        x.quarters(12);
        check.due("144", x.look(7), 144);
        for (int i = 145; i <= 150; i++) {
            x.act(1, 0, 2);
            check.due("one more", x.look(7), i);
        }
        check.due("all the same", x.act(1, 0, 3), true);
        check.due("a wedding, too", x.act(20, 1, 0), true);
        check.due("a move, too", x.act(21, 1, 0), true);
        check.due("no more", x.look(7), 150);
        check.line(x, 149, 0, 0, 2);
        check.due("no line 150", x.book(150, 0), -2);
        check.due("it was eaten", x.look(3), 144 + 12 + 3);
        x.undo();
        x.undo();
        x.undo();
        check.due("full yet", x.look(7), 150);
        x.undo();
        check.due("one less", x.look(7), 149);
        x.act(1, 0, 4);
        check.line(x, 149, 0, 0, 4);
    }

    private static void bookIsFullWithinAQuarter() {
        check.says("(150 lines; no more then)");
        GingerRents x = Check.quiet(12, 99);
        Check.tell(x, 0, "rent 1;gnaws 1000;melts 0;");
        // 24 lines a quarter: the seventh has room for 6 that are nibbled, for none that are gnawed.
        x.quarters(7);
        check.due("150", x.look(7), 150);
        check.line(x, 143, 2, 11, 4);
        check.line(x, 144, 0, 0, 1);
        check.line(x, 149, 0, 5, 1);
        check.due("of quarter 6", x.book(149, 0), 6);
        check.due("eaten", x.look(3), 84);
        check.due("gnawed", x.look(4), 7 * 48);
    }

    private static void bookOfTheLastQuarter() {
        check.says("THE BOOK (150 lines; no more then): QUARTER");
        GingerRents x = Check.quiet(1, 9);
        for (int i = 0; i < 166; i++) {
            x.quarters(60);
        }
        x.quarters(38);
        Check.tell(x, 0, "rent 1;gnaws 0;melts 0;");
        x.quarters(1);
        check.due("the last quarter that goes by", x.book(0, 0), 9998);
        x.act(0, 0, 1);
        check.due("by hand behind it", x.book(1, 0), 9999);
    }

    private static void linesOnlyAboveNothing() {
        check.says("0 .. 3 a line only if above 0.");
        GingerRents x = Check.quiet(1, 4);
        x.quarters(1);
        check.due("nothing nibbled, iced, gnawed, melted", x.look(7), 0);
        String[] law = {"rent 1;gnaws 0;melts 0;", "rent 0;gnaws 1000;melts 0;", "rent 0;gnaws 0;melts 1;"};
        int[] what = {0, 2, 3};
        int[] much = {1, 4, 4};
        for (int i = 0; i < 3; i++) {
            Check.tell(x, 0, law[i]);
            x.quarters(1);
            check.due("one line", x.look(7), i + 1);
            check.line(x, i, what[i], 0, much[i]);
        }
        // 7 are left: paid to the last, nothing is owed.
        Check.tell(x, 0, "rent 7;gnaws 1000;melts 9;");
        x.quarters(1);
        check.due("nibbled and gone, not iced, gnawed, melted", x.look(7), 5);
        check.line(x, 3, 0, 0, 7);
        check.line(x, 4, 4, 0, -1);
    }

    private static void howMuch() {
        check.says("how much (0: in (c) all of it, by hand n; 1: what is owed; 2, 3: of all its WALLS together");
        GingerRents x = Check.quiet(1, 99);
        Check.tell(x, 0, "rent 99;gnaws 1000;melts 99 when quarter=1;melts 1;");
        x.quarters(2);
        check.due("lines, with the one of who goes then", x.look(7), 7);
        check.line(x, 0, 0, 0, 99);
        check.line(x, 1, 2, 0, 4);
        check.line(x, 2, 3, 0, 4);
        // 396 less 107 are left, of which 99 are nibbled and 4 gnawed: no more than 186 can melt.
        check.line(x, 3, 0, 0, 99);
        check.line(x, 4, 2, 0, 4);
        check.line(x, 5, 3, 0, 186);
        GingerRents y = Check.quiet(1, 99);
        y.act(2, 0, 99);
        check.line(y, 0, 0, 0, 99);
        GingerRents z = Check.quiet(1, 0);
        z.set(0, 0, 1);
        Check.tell(z, 0, "rent 99;");
        z.quarters(1);
        check.line(z, 0, 0, 0, 1);
        check.line(z, 1, 1, 0, 98);
    }

    private static void linesOfGoneAndWed() {
        check.says("4: where to, NONE; 5: LODGERS then");
        GingerRents x = Check.quiet(2, 30);
        x.set(7, 0, 99);
        x.act(20, 0, 0);
        check.line(x, 0, 5, 0, 100);
        x.act(21, 1, 0);
        check.line(x, 1, 4, 1, 0);
        x.act(22, 0, 0);
        check.line(x, 2, 4, 0, -1);
    }

    private static void quartersBounds() {
        check.says("QUARTERS go by (1 .. 60)");
        GingerRents x = new GingerRents();
        for (int n : new int[] {LEAST, -60, -1, 0, 61, 9999, MOST}) {
            check.due("quarters " + n, x.quarters(n), -1);
        }
        check.due("0 yet", x.look(5), 0);
        check.due("1", x.quarters(1), 0);
        check.due("1 then", x.look(5), 1);
        check.due("60", x.quarters(60), 0);
        check.due("61 then", x.look(5), 61);
    }

    private static void quartersRefusedDoNothing() {
        check.says("NONE, and nothing is done, if one can't be");
        GingerRents x = new GingerRents();
        x.house(50, 0, 0);
        x.house(1, 0, 0);
        Check.tell(x, 1, "in 2 rain 9;");
        Check.tell(x, 2, "in 2 wed 0;");
        x.quarters(2);
        String before = Digest.borough(x);
        for (int n : new int[] {LEAST, -1, 0, 61, MOST}) {
            check.due("quarters " + n, x.quarters(n), -1);
        }
        check.due("all as it was", Digest.borough(x), before);
    }

    private static void quartersAboveTheMost() {
        check.says("NONE, and nothing is done, if one can't be, or QUARTER would be above 9999.");
        GingerRents x = Check.quiet(1, 9);
        for (int i = 0; i < 166; i++) {
            x.quarters(60);
        }
        String before = Digest.borough(x);
        check.due("to 10020", x.quarters(60), -1);
        check.due("to 10000", x.quarters(40), -1);
        check.due("all as it was", Digest.borough(x), before);
        check.due("to 9999", x.quarters(39), 0);
        check.due("9999", x.look(5), 9999);
        check.due("one more", x.quarters(1), -1);
        check.due("9999 yet", x.look(5), 9999);
        check.due("can be undone", x.undo(), true);
        check.due("and done again", x.quarters(1), 0);
    }

    private static void fallenByRentRatsRain() {
        check.says("how many HOUSES stood no more by (c), (d), (e)");
        String[] law = {"rent 99;gnaws 0;melts 0;", "rent 0;gnaws 1000;melts 0;", "rent 0;gnaws 0;melts 1;", "rent 2;gnaws 1000;melts 1;",
            "rent 3;gnaws 0;melts 0;"};
        int[] due = {3, 3, 3, 3, 0};
        for (int i = 0; i < law.length; i++) {
            GingerRents x = Check.quiet(3, 1);
            Check.tell(x, 0, law[i]);
            check.due(law[i], x.quarters(1), due[i]);
        }
        GingerRents x = Check.quiet(12, 1);
        Check.tell(x, 0, "rent 1;gnaws 0;melts 0;");
        check.due("not yet", x.quarters(3), 0);
        check.due("all twelve", x.quarters(57), 12);
        check.due("no more", x.quarters(60), 0);
    }

    private static void fallenByOthers() {
        check.says("how many HOUSES stood no more by (c), (d), (e)");
        GingerRents x = Check.quiet(4, 1);
        Check.walls(x, 0, 0, 0, 0, 0);
        x.act(22, 1, 0);
        x.set(1, 3, 0);
        x.set(2, 3, 0);
        x.set(3, 3, 0);
        Check.tell(x, 2, "in 0 raze 2;in 0 wed 3;");
        check.due("set, razed, razed and wed by the office", x.quarters(1), 0);
        check.due("none stands", x.look(6), 0);
        GingerRents y = Check.quiet(1, 0);
        Check.tell(y, 0, "rent 0;gnaws 0;melts 9;");
        Check.tell(y, 2, "in 0 bake 0 0 1;in 1 bake 0 0 1;");
        check.due("one baked in (b) falls in (e), each time", y.quarters(2), 2);
    }

    private static void bookNoneSuch() {
        check.says("NONE - 1 if there is none such");
        GingerRents x = Check.quiet(1, 9);
        check.due("no line at all", x.book(0, 0), -2);
        x.act(0, 0, 1);
        x.act(0, 0, 2);
        for (int i : new int[] {LEAST, -1, 2, 149, 150, MOST}) {
            for (int what = 0; what <= 3; what++) {
                check.due("line " + i + " what " + what, x.book(i, what), -2);
            }
        }
        check.line(x, 0, 0, 0, 1);
        check.line(x, 1, 0, 0, 2);
        x.undo();
        check.due("a line undone", x.book(1, 3), -2);
    }

    private static void bookAnotherWhat() {
        check.says("NONE - 1 if there is none such, or another what.");
        GingerRents x = Check.quiet(1, 9);
        x.act(0, 0, 1);
        for (int what : new int[] {LEAST, -1, 4, 5, MOST}) {
            check.due("what " + what, x.book(0, what), -2);
            check.due("no line, what " + what, x.book(1, what), -2);
        }
    }
}
