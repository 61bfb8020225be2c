/** Term 1 and promises 1 to 5, 11 and 40: each sentence of the document that names a boundary, alone. */
public final class HousesEdgesTest {
    private static final Check check = new Check();
    private static final int LEAST = Check.LEAST;
    private static final int MOST = Check.MOST;

    public static void main(String[] args) {
        usedFor512Calls();
        stateIsAnInt();
        drawsWrap();
        twelveHouses();
        wallBounds();
        noFifthWall();
        almondBounds();
        toothBounds();
        hardBounds();
        icingAtFirst();
        lodgersHaveNoMost();
        doorOnce();
        ageGrowsToItsMost();
        rainBounds();
        frostIsOneOrNot();
        eatenAndGnawedAtFirst();
        quarterBounds();
        oneWallIsEnough();
        emptyBorough();
        stateTellsWhatItWas();
        houseThatCannotBe();
        setBounds();
        setOfNobody();
        setOfAnotherWhat();
        rainOfNobody();
        setChangesNothingWhenRefused();
        ofNoSuchHouse();
        ofAnotherWhat();
        ofWallOfNothing();
        lookBounds();
        lookStateAsItIs();
        check.finish("HousesEdgesTest");
    }

    private static void usedFor512Calls() {
        check.says("An object is used for at most 512 calls after it has been made");
        GingerRents x = new GingerRents();
        for (int i = 0; i < 510; i++) {
            x.state(i);
        }
        check.due("the 511th", x.state(-1), 509);
        check.due("the 512th", x.look(8), -1);
    }

    private static void stateIsAnInt() {
        check.says("STATE of draws (an int, 0 at first)");
        GingerRents x = new GingerRents();
        check.due("at first", x.look(8), 0);
        check.due("state of the least", x.state(LEAST), 0);
        check.due("state of the most", x.state(MOST), LEAST);
        check.due("state of -1", x.state(-1), MOST);
        check.due("state then", x.look(8), -1);
    }

    /** One wall is asked; the draw is told by the least gnaws that gnaws it. */
    private static void draw(int state, int becomes, int drawn) {
        for (int gnaws = drawn; gnaws <= drawn + 1; gnaws++) {
            GingerRents x = Check.quiet(1, 0);
            x.set(2, 0, 5);
            Check.tell(x, 0, "rent 0;melts 0;gnaws " + gnaws + ";");
            x.state(state);
            x.quarters(1);
            check.due("state behind " + state, x.look(8), becomes);
            check.due("gnaws " + gnaws + " of " + drawn, x.of(0, 2), gnaws > drawn ? 4 : 5);
            check.due("gnawed by " + gnaws, x.look(4), gnaws > drawn ? 1 : 0);
        }
    }

    private static void drawsWrap() {
        check.says("it becomes 1664525 times itself + 1013904223 (ints, which wrap), then it is its highest 24 bits (without sign) modulo m");
        draw(1, 1015568748, 65);
        // 1664525000 + 1013904223 is 2678429223, less 4294967296; its highest 24 bits are 10462614.
        draw(1000, -1616538073, 614);
        draw(MOST, -1135243950, 669);
    }

    private static void twelveHouses() {
        check.says("HOUSES 0 .. 11 as they come");
        GingerRents x = new GingerRents();
        for (int i = 0; i <= 11; i++) {
            check.due("house " + i, x.house(i, 0, 0), i);
            check.due("how many", x.look(0), i + 1);
        }
        check.due("a thirteenth", x.house(1, 0, 0), -1);
        check.due("twelve yet", x.look(0), 12);
        check.due("those that stand", x.look(6), 4094);
        check.due("house 0", x.of(0, 0), 0);
        check.due("house 11", x.of(11, 0), 11);
        check.due("no house 12", x.of(12, 0), -1);
    }

    private static void wallBounds() {
        check.says("four WALLS 0 .. 3 of 0 .. 99");
        GingerRents x = new GingerRents();
        check.due("of -1", x.house(-1, 0, 0), -1);
        check.due("of 100", x.house(100, 0, 0), -1);
        check.due("of 0", x.house(0, 0, 0), 0);
        check.due("of 99", x.house(99, 0, 0), 1);
        for (int w = 0; w <= 3; w++) {
            check.due("wall 0", x.of(0, w), 0);
            check.due("wall 99", x.of(1, w), 99);
            check.due("set to -1", x.set(w, 0, -1), false);
            check.due("set to 100", x.set(w, 0, 100), false);
            check.due("as it was", x.of(0, w), 0);
            check.due("set to 99", x.set(w, 0, 99), true);
            check.due("99 then", x.of(0, w), 99);
            check.due("set to 0", x.set(w, 0, 0), true);
            check.due("0 then", x.of(0, w), 0);
        }
    }

    /** What a house has beside its walls is neither nibbled nor gnawed, melted, razed or cut for a wedding. */
    private static void noFifthWall() {
        check.says("four WALLS 0 .. 3 of 0 .. 99");
        String[] law = {"rent wall;gnaws 0;melts 0;", "rent 0;gnaws 1000;melts 0;", "rent 0;gnaws 0;melts 1;"};
        for (int i = 0; i < 5; i++) {
            GingerRents x = new GingerRents();
            x.house(2, 9, 9);
            x.set(6, 0, 9);
            Check.tell(x, 0, i < 3 ? law[i] : law[0]);
            check.due("rent by the thickest", x.of(0, 11), i == 0 || i > 2 ? 2 : 0);
            if (i < 3) {
                x.quarters(1);
            } else {
                x.act(i == 3 ? 20 : 22, 0, 0);
            }
            int[] left = {6, 4, 4, 6, 0};
            check.due("what is left of the walls", x.of(0, 0) + x.of(0, 1) + x.of(0, 2) + x.of(0, 3), left[i]);
            for (int what = 4; what <= 6; what++) {
                check.due("what " + what + " is as it was", x.of(0, what), 9);
            }
            check.due("gnawed", x.look(4), i == 1 ? 4 : 0);
        }
    }

    private static void almondBounds() {
        check.says("ALMONDS 0 .. 9");
        GingerRents x = new GingerRents();
        check.due("-1", x.house(1, -1, 0), -1);
        check.due("10", x.house(1, 10, 0), -1);
        check.due("0", x.house(1, 0, 5), 0);
        check.due("9", x.house(1, 9, 5), 1);
        check.due("0 are there", x.of(0, 4), 0);
        check.due("9 are there", x.of(1, 4), 9);
        check.due("set to -1", x.set(4, 1, -1), false);
        check.due("set to 10", x.set(4, 1, 10), false);
        check.due("as they were", x.of(1, 4), 9);
    }

    private static void toothBounds() {
        check.says("TEETH 0 .. 9 of who lives there");
        GingerRents x = new GingerRents();
        check.due("-1", x.house(1, 0, -1), -1);
        check.due("10", x.house(1, 0, 10), -1);
        check.due("0", x.house(1, 5, 0), 0);
        check.due("9", x.house(1, 5, 9), 1);
        check.due("0 are there", x.of(0, 5), 0);
        check.due("9 are there", x.of(1, 5), 9);
        check.due("set to -1", x.set(5, 1, -1), false);
        check.due("set to 10", x.set(5, 1, 10), false);
        check.due("as they were", x.of(1, 5), 9);
    }

    private static void hardBounds() {
        check.says("HARD 0 .. 9 (0 at first)");
        GingerRents x = Check.quiet(1, 9);
        check.due("at first", x.of(0, 6), 0);
        check.due("set to -1", x.set(6, 0, -1), false);
        check.due("set to 10", x.set(6, 0, 10), false);
        check.due("set to 8", x.set(6, 0, 8), true);
        Check.tell(x, 1, "in 0 frost;");
        x.quarters(1);
        check.due("by frost 9", x.of(0, 6), 9);
        x.quarters(1);
        check.due("9 yet", x.of(0, 6), 9);
        Check.tell(x, 0, "rent 1 when hard>9;rent 0;gnaws 0;melts 0;");
        check.due("9 in thought, too", x.goes(60, 0), 0);
    }

    private static void icingAtFirst() {
        check.says("ICING (an int, 0 at first)");
        GingerRents x = new GingerRents();
        x.house(99, 9, 9);
        check.due("at first", x.of(0, 8), 0);
        check.due("in thought, too", x.goes(1, 2), 0);
    }

    private static void lodgersHaveNoMost() {
        check.says("LODGERS (how many families live there, 1 at first; 0: nobody)");
        GingerRents x = Check.quiet(2, 20);
        check.due("at first", x.of(0, 7), 1);
        x.set(7, 0, 99);
        x.set(7, 1, 99);
        check.due("a wedding", x.act(20, 0, 0), true);
        check.due("one more than can be set", x.of(0, 7), 100);
        check.due("all move", x.act(21, 0, 1), true);
        check.due("199", x.of(1, 7), 199);
        check.due("nobody", x.of(0, 7), 0);
        check.due("the rent of 199 is 402, held", withoutLaw(x).of(1, 11), 99);
    }

    private static GingerRents withoutLaw(GingerRents x) {
        Check.tell(x, 0, "");
        return x;
    }

    private static void doorOnce() {
        check.says("DOOR 0, 1 (0 at first)");
        GingerRents x = Check.quiet(1, 90);
        check.due("at first", x.of(0, 9), 0);
        check.due("a wedding", x.act(20, 0, 0), true);
        check.due("then", x.of(0, 9), 1);
        check.due("another", x.act(20, 0, 0), false);
        check.due("1 yet", x.of(0, 9), 1);
    }

    private static GingerRents atTheEnd() {
        GingerRents x = Check.quiet(1, 1);
        for (int i = 0; i < 166; i++) {
            x.quarters(60);
        }
        x.quarters(39);
        return x;
    }

    private static void ageGrowsToItsMost() {
        check.says("AGE 0 .. 9999 quarters (0 at first)");
        GingerRents y = Check.quiet(2, 1);
        y.act(22, 1, 0);
        check.due("at first", y.of(0, 10), 0);
        y.quarters(1);
        check.due("a quarter", y.of(0, 10), 1);
        check.due("0 of what does not stand", y.of(1, 10), 0);
        GingerRents x = atTheEnd();
        check.due("the most", x.of(0, 10), 9999);
        Check.tell(x, 0, "rent 1 when age>9999;rent 0;gnaws 0;");
        check.due("no more in thought", x.goes(60, 0), 0);
        check.due("nor to stand", x.stands(0), -1);
    }

    private static void rainBounds() {
        check.says("RAIN 0 .. 9 (0 at first)");
        GingerRents x = new GingerRents();
        check.due("at first", x.look(1), 0);
        check.due("-1", x.set(8, 0, -1), false);
        check.due("10", x.set(8, 0, 10), false);
        check.due("0 yet", x.look(1), 0);
        check.due("9", x.set(8, 0, 9), true);
        check.due("9 then", x.look(1), 9);
        check.due("0", x.set(8, 0, 0), true);
        check.due("0 then", x.look(1), 0);
    }

    private static void frostIsOneOrNot() {
        check.says("FROST 0, 1 (0 at first)");
        GingerRents x = new GingerRents();
        check.due("at first", x.look(2), 0);
        Check.tell(x, 1, "in 0 thaw;in 1 frost;in 2 frost;in 3 thaw;in 4 thaw;");
        int[] due = {0, 1, 1, 0, 0};
        for (int i = 0; i < due.length; i++) {
            x.quarters(1);
            check.due("behind quarter " + i, x.look(2), due[i]);
        }
    }

    private static void eatenAndGnawedAtFirst() {
        check.says("EATEN (all that was nibbled, an int, 0 at first), GNAWED (an int, 0 at first)");
        GingerRents x = new GingerRents();
        check.due("eaten", x.look(3), 0);
        check.due("gnawed", x.look(4), 0);
        x.house(50, 0, 0);
        Check.tell(x, 0, "rent 99;gnaws 1000;melts 0;");
        x.quarters(2);
        check.due("eaten: 99, and 97 that were left", x.look(3), 99 + 97);
        check.due("gnawed: all four once", x.look(4), 4);
    }

    private static void quarterBounds() {
        check.says("QUARTER 0 .. 9999 (0 at first)");
        check.due("at first", new GingerRents().look(5), 0);
        GingerRents x = atTheEnd();
        check.due("the most", x.look(5), 9999);
        check.due("no more", x.quarters(1), -1);
        check.due("the most yet", x.look(5), 9999);
        Check.tell(x, 0, "rent 1 when quarter>9999;rent 0;gnaws 0;");
        check.due("no more in thought", x.goes(60, 0), 0);
    }

    private static void oneWallIsEnough() {
        check.says("A HOUSE stands, if one of its WALLS is above 0.");
        GingerRents x = new GingerRents();
        for (int i = 0; i < 5; i++) {
            x.house(0, 0, 0);
        }
        check.due("none of nothing", x.look(6), 0);
        for (int w = 0; w < 4; w++) {
            x.set(w, w, 1);
            check.due("wall " + w + " of house " + w, x.look(6), (1 << w + 1) - 1);
        }
        x.set(1, 1, 0);
        check.due("without it", x.look(6), 13);
    }

    private static void emptyBorough() {
        check.says("An empty borough.");
        GingerRents x = new GingerRents();
        check.due("all is 0", Digest.borough(x), "look 0 0 0 0 0 0 0 0 0 0 0 0 0 0 | fault 0 -1");
        check.due("nothing is told", Digest.thoughts(x), "plate -1 -1 -1 -1 -1 -1 -1 -1 -1 -1 -1 -1 -1 -1 -1 -1 -1 -1 | pans 0 0 0"
            + " | measures 0 1 | whose 0 0 | crumbs 0 0 | ovens 0 -1 -1 -1 -1 -1 -1"
            + " | line 0 0 0 1 0 2 0 3 0 4 0 5 0 6 0 7 0 8 0 9 0 10 0 11 | council 0 0");
        check.due("nobody alone", x.alone(0), 0);
        check.due("no one", x.alone(1), 0);
        check.due("no byte", x.end(1), false);
        check.due("nothing to undo", x.undo(), false);
        check.due("no image", x.image(false), false);
        for (int what = 0; what <= 3; what++) {
            check.due("goes " + what, x.goes(60, what), 0);
        }
        check.due("quarters go by", x.quarters(60), 0);
        check.due("no draws", x.look(8), 0);
        check.due("no lines", x.look(7), 0);
    }

    private static void stateTellsWhatItWas() {
        check.says("STATE is told: what it was.");
        GingerRents x = Check.quiet(1, 9);
        x.state(5);
        x.quarters(1);
        check.due("the same again", x.state(5), 5);
        check.due("is told all the same: forgotten", x.look(13), 0);
    }

    private static void houseThatCannotBe() {
        check.says("A HOUSE, all WALLS alike: the number; NONE if one can't be, or there are twelve.");
        GingerRents x = new GingerRents();
        x.house(7, 1, 2);
        x.quarters(1);
        String before = Digest.borough(x);
        for (int far : new int[] {LEAST, -1, 100, MOST}) {
            check.due("wall " + far, x.house(far, 0, 0), -1);
        }
        for (int far : new int[] {LEAST, -1, 10, MOST}) {
            check.due("almonds " + far, x.house(1, far, 0), -1);
            check.due("teeth " + far, x.house(1, 0, far), -1);
        }
        check.due("all as it was", Digest.borough(x), before);
        check.due("the number is the next", x.house(99, 9, 9), 1);
        for (int i = 2; i < 12; i++) {
            x.house(0, 0, 0);
        }
        x.quarters(1);
        check.due("of twelve", x.house(0, 0, 0), -1);
        check.due("of twelve nothing is forgotten", x.look(13), 1);
    }

    private static void setBounds() {
        check.says("What 0 .. 3 the WALL, 4 ALMONDS, 5 TEETH, 6 HARD, 7 LODGERS (0 .. 99) of HOUSE who");
        GingerRents x = Check.quiet(2, 50);
        int[] most = {99, 99, 99, 99, 9, 9, 9, 99};
        for (int what = 0; what <= 7; what++) {
            for (int v : new int[] {LEAST, -1, most[what] + 1, MOST}) {
                check.due("set " + what + " to " + v, x.set(what, 1, v), false);
            }
            check.due("set " + what + " to the most", x.set(what, 1, most[what]), true);
            check.due("the most of " + what, x.of(1, what), most[what]);
            check.due("set " + what + " to 0", x.set(what, 1, 0), true);
            check.due("0 of " + what, x.of(1, what), 0);
        }
        int[] first = {50, 50, 50, 50, 0, 0, 0, 1};
        for (int what = 0; what <= 7; what++) {
            check.due("house 0 has its own " + what, x.of(0, what), first[what]);
        }
    }

    private static void setOfNobody() {
        check.says("false if one can't be");
        GingerRents x = Check.quiet(2, 50);
        for (int what = 0; what <= 7; what++) {
            for (int who : new int[] {LEAST, -1, 2, 12, MOST}) {
                check.due("set " + what + " of " + who, x.set(what, who, 1), false);
            }
        }
        check.due("of none at all", new GingerRents().set(0, 0, 1), false);
    }

    private static void setOfAnotherWhat() {
        check.says("false if one can't be, or another what");
        GingerRents x = Check.quiet(2, 50);
        for (int what : new int[] {LEAST, -1, 9, 10, 11, 12, MOST}) {
            check.due("set " + what, x.set(what, 0, 1), false);
        }
    }

    private static void rainOfNobody() {
        check.says("8 RAIN (who not asked): true");
        GingerRents x = new GingerRents();
        for (int who : new int[] {LEAST, -1, 0, 12, MOST}) {
            check.due("of " + who, x.set(8, who, 4), true);
        }
        check.due("rain", x.look(1), 4);
        for (int v : new int[] {LEAST, -1, 10, MOST}) {
            check.due("rain " + v, x.set(8, 0, v), false);
        }
        check.due("rain yet", x.look(1), 4);
    }

    private static void setChangesNothingWhenRefused() {
        check.says("true; false if one can't be, or another what.");
        GingerRents x = Check.quiet(2, 50);
        x.quarters(2);
        String before = Digest.borough(x);
        for (int what = -1; what <= 9; what++) {
            x.set(what, what == 8 ? 0 : 2, what == 8 ? 10 : 1);
            x.set(what, 0, what < 0 || what > 8 ? 1 : 100);
            x.set(what, 0, what < 0 || what > 8 ? 0 : -1);
        }
        check.due("all as it was, and can be undone", Digest.borough(x), before);
    }

    private static void ofNoSuchHouse() {
        check.says("NONE if there is none such");
        GingerRents x = Check.quiet(2, 50);
        for (int who : new int[] {LEAST, -1, 2, 12, MOST}) {
            for (int what : new int[] {0, 3, 4, 7, 8, 10, 11, 12, 20, 23, 30, 33}) {
                check.due("of " + who + " what " + what, x.of(who, what), -1);
            }
        }
    }

    private static void ofAnotherWhat() {
        check.says("NONE if there is none such, or another what.");
        GingerRents x = Check.quiet(2, 50);
        for (int what : new int[] {LEAST, -1, 13, 19, 24, 29, 34, 40, MOST}) {
            check.due("what " + what, x.of(1, what), -1);
        }
        Check.tell(x, 0, "rent 11;gnaws 22;melts 33;");
        Check.tell(x, 3, "house 0 next 1;");
        int[] whats = {0, 3, 10, 11, 12, 20, 23, 30, 33};
        int[] due = {50, 50, 0, 11, 1, 22, 22, 33, 33};
        for (int i = 0; i < whats.length; i++) {
            check.due("what " + whats[i], x.of(1, whats[i]), due[i]);
        }
    }

    private static void ofWallOfNothing() {
        check.says("20 + w gnaws, 30 + w melts of WALL w (0: as 0)");
        GingerRents x = Check.quiet(1, 0);
        x.set(8, 0, 7);
        Check.tell(x, 0, "gnaws 111+wall;melts 22 when wall=0;melts 1;rent 3 when wall=0;rent 4;");
        for (int w = 0; w < 4; w++) {
            check.due("gnaws of wall " + w, x.of(0, 20 + w), 111);
            check.due("melts of wall " + w, x.of(0, 30 + w), 22);
        }
        check.due("rent of no wall: the thickest is 0", x.of(0, 11), 3);
        x.set(2, 0, 5);
        check.due("gnaws of the one that is there", x.of(0, 22), 116);
        check.due("gnaws of one that is not", x.of(0, 21), 111);
        Check.tell(x, 0, "");
        check.due("gnaws without a law", x.of(0, 20), 300);
        check.due("melts without a law", x.of(0, 30), 7);
    }

    private static void lookBounds() {
        check.says("NONE for another what. (STATE as it is.)");
        GingerRents x = Check.quiet(2, 5);
        for (int what : new int[] {LEAST, -1, 14, 15, MOST}) {
            check.due("look " + what, x.look(what), -1);
        }
        check.due("look 0", x.look(0), 2);
        x.quarters(1);
        check.due("look 13", x.look(13), 1);
    }

    private static void lookStateAsItIs() {
        check.says("(STATE as it is.)");
        GingerRents x = new GingerRents();
        for (int v : new int[] {-1, LEAST, MOST}) {
            x.state(v);
            check.due("look 8", x.look(8), v);
        }
    }
}
