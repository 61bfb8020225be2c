/** Term 2 and promises 7 to 10: each sentence of the document that names a boundary, alone. */
public final class TextsEdgesTest {
    private static final Check check = new Check();
    private static final int LEAST = Check.LEAST;
    private static final int MOST = Check.MOST;
    private static final String[] LINE = {"rent 1;", "in 0 thaw;", "in 0 wed 0;", "house 0 next 1;"};

    public static void main(String[] args) {
        emptyAtFirst();
        noLines();
        onlyThatText();
        skyBounds();
        officeBounds();
        nextBounds();
        sixteenLines();
        wordsAsLongAsTheyStand();
        wordsOfThatText();
        numbersOfFourDigits();
        everyByte();
        blanks();
        intsWrap();
        partsTowardsNothing();
        firstFaultByPlace();
        leastFaultAtOnePlace();
        endIsTheLength();
        partByNothing();
        beyondBounds();
        houseThatThereIsNot();
        sameHouseAgain();
        seventeenthLine();
        ninthOpen();
        openOnly();
        comparedAlike();
        andBeforeOr();
        lawLineWithoutMore();
        skyLineWithoutMore();
        officeLineWithoutMore();
        longestSums();
        restOfTheHouse();
        eachWord();
        firstLineThatIsSo();
        noneIsSo();
        heldRent();
        heldGnaws();
        heldMelts();
        heldWithoutALaw();
        wallThatIsAsked();
        tapeIsFull();
        tapeFullOfTokens();
        highestByteFirst();
        endBounds();
        tapeIsEmptyThen();
        noSuchText();
        faultStaysAsItWas();
        faultOfTheLatest();
        faultOfAnotherWhat();
        check.finish("TextsEdgesTest");
    }

    private static GingerRents borough() {
        GingerRents x = new GingerRents();
        x.house(10, 0, 0);
        x.house(10, 0, 0);
        x.house(10, 0, 0);
        return x;
    }

    private static void good(GingerRents x, int k, String text, int lines) {
        check.due("'" + text + "'", Check.tell(x, k, text), lines);
        check.due("'" + text + "' (fault)", x.fault(0), 0);
        check.due("'" + text + "' (place)", x.fault(1), -1);
        check.due("'" + text + "' (lines)", x.look(9 + k), lines);
    }

    private static void fault(GingerRents x, int k, String text, int what, int place) {
        int lines = x.look(9 + k);
        check.due("'" + text + "'", Check.tell(x, k, text), -1);
        check.due("'" + text + "' (fault)", x.fault(0), what);
        check.due("'" + text + "' (place)", x.fault(1), place);
        check.due("'" + text + "' (lines as before)", x.look(9 + k), lines);
    }

    private static void emptyAtFirst() {
        check.says("TEXTS (empty at first)");
        GingerRents x = borough();
        for (int k = 0; k < 4; k++) {
            check.due("lines of text " + k, x.look(9 + k), 0);
        }
        check.due("rent", x.of(0, 11), 6);
        check.due("next", x.of(0, 12), 0);
    }

    private static void noLines() {
        check.says("The TAPE, empty then, is TEXT k: how many lines.");
        for (int k = 0; k < 4; k++) {
            GingerRents x = borough();
            good(x, k, "", 0);
            good(x, k, LINE[k], 1);
            good(x, k, " \n ", 0);
            good(x, k, LINE[k] + LINE[k], 2);
            check.due("an empty tape is an empty text", x.text(k), 0);
            check.due("no line is left", x.look(9 + k), 0);
        }
    }

    private static void onlyThatText() {
        check.says("is TEXT k: how many lines");
        for (int k = 0; k < 4; k++) {
            GingerRents x = borough();
            for (int t = 3; t >= 0; t--) {
                good(x, t, LINE[t], 1);
            }
            good(x, k, LINE[k] + LINE[k], 2);
            for (int t = 0; t < 4; t++) {
                check.due("lines of text " + t + " behind text " + k, x.look(9 + t), t == k ? 2 : 1);
            }
            check.due("next behind text " + k, x.of(0, 12), 2);
            check.due("rent behind text " + k, x.of(0, 11), 1);
        }
    }

    private static void skyBounds() {
        check.says("(QUARTER 0 .. 999; N 0 .. 9.)");
        GingerRents x = borough();
        good(x, 1, "in 0 thaw;in 999 thaw;", 2);
        fault(x, 1, "in 1000 thaw;", 2, 3);
        fault(x, 1, "in 9999 thaw;", 2, 3);
        good(x, 1, "in 0 rain 0;in 0 rain 9;", 2);
        fault(x, 1, "in 0 rain 10;", 2, 10);
        fault(x, 1, "in 0 rain 9999;", 2, 10);
        good(x, 1, "in 0999 rain 0009;", 1);
    }

    private static void officeBounds() {
        check.says("(N 1 .. 99, WALL 0 .. 3.)");
        GingerRents x = borough();
        good(x, 2, "in 0 ice 0 1;in 999 ice 2 99;", 2);
        fault(x, 2, "in 1000 ice 0 1;", 2, 3);
        fault(x, 2, "in 0 ice 0 0;", 2, 11);
        fault(x, 2, "in 0 ice 0 100;", 2, 11);
        good(x, 2, "in 0 bake 0 0 1;in 0 bake 2 3 99;", 2);
        fault(x, 2, "in 1000 bake 0 0 1;", 2, 3);
        fault(x, 2, "in 0 bake 0 4 1;", 2, 12);
        fault(x, 2, "in 0 bake 0 3 0;", 2, 14);
        fault(x, 2, "in 0 bake 0 3 100;", 2, 14);
        good(x, 2, "in 0 wed 0;in 999 raze 2;", 2);
        fault(x, 2, "in 1000 wed 0;", 2, 3);
        fault(x, 2, "in 1000 raze 0;", 2, 3);
    }

    private static void nextBounds() {
        check.says("3 NEXT = {house HOUSE next HOUSE ;} (either way; unlike.)");
        GingerRents x = borough();
        good(x, 3, "house 0 next 2;", 1);
        check.due("this way", x.of(0, 12), 4);
        check.due("that way", x.of(2, 12), 1);
        check.due("not the other", x.of(1, 12), 0);
        fault(x, 3, "house 1 next 1;", 2, 13);
        good(x, 3, "house 0 next 1;house 1 next 0;house 0 next 1;", 3);
        check.due("told again it is the same", x.of(0, 12), 2);
        good(x, 3, "house 2 next 0;house 2 next 0;", 2);
        check.due("told twice this way", x.of(0, 12), 4);
        check.due("told twice that way", x.of(2, 12), 1);
    }

    private static void sixteenLines() {
        check.says("16 lines of each at most.");
        for (int k = 0; k < 4; k++) {
            GingerRents x = borough();
            good(x, k, LINE[k].repeat(15), 15);
            good(x, k, LINE[k].repeat(16), 16);
            fault(x, k, LINE[k].repeat(17), 3, 16 * LINE[k].length());
            check.due("sixteen yet", x.look(9 + k), 16);
        }
    }

    private static void wordsAsLongAsTheyStand() {
        check.says("letters as many as stand together are KEYWORDS (those told here for that text) or none");
        GingerRents x = borough();
        fault(x, 0, "ren 1;", 1, 0);
        fault(x, 0, "rents 1;", 1, 0);
        fault(x, 0, "rentwall;", 1, 0);
        fault(x, 0, "r ent 1;", 1, 0);
        fault(x, 0, "rent wal;", 1, 5);
        fault(x, 0, "rent wallwall;", 1, 5);
        fault(x, 0, "rent 1 whennot 1=1;", 1, 7);
        fault(x, 0, "Rent 1;", 1, 0);
        fault(x, 0, "rent Wall;", 1, 5);
        good(x, 0, "rent1when1=1and not1=2or(2>1);", 1);
        good(x, 1, "in0rain9;", 1);
    }

    private static void wordsOfThatText() {
        check.says("KEYWORDS (those told here for that text)");
        GingerRents x = borough();
        fault(x, 0, "rent in;", 1, 5);
        fault(x, 0, "rent thaw;", 1, 5);
        fault(x, 1, "in 0 quarter;", 1, 5);
        fault(x, 1, "in 0 wed 0;", 1, 5);
        fault(x, 2, "in 0 rain 0;", 1, 5);
        fault(x, 2, "house 0 next 1;", 1, 0);
        fault(x, 3, "in 0 wed 0;", 1, 0);
        for (String unit : "wall sum almonds teeth hard icing lodgers door age rain frost quarter".split(" ")) {
            good(x, 0, "rent " + unit + ";", 1);
        }
    }

    private static void numbersOfFourDigits() {
        check.says("digits as many as stand together NUMBERS of 1 to 4 digits or none");
        GingerRents x = borough();
        good(x, 0, "rent 7;", 1);
        good(x, 0, "rent 9999;", 1);
        good(x, 0, "rent 0007;", 1);
        check.due("7", x.of(0, 11), 7);
        fault(x, 0, "rent 10000;", 1, 5);
        fault(x, 0, "rent 00007;", 1, 5);
        fault(x, 0, "rent 12 34;", 1, 8);
        fault(x, 1, "in 00000 thaw;", 1, 3);
        fault(x, 2, "in 0 ice 00000 1;", 1, 9);
        fault(x, 3, "house 00000 next 1;", 1, 6);
    }

    /** What may follow 'rent 1 ' before ';', and where it goes wrong if it may not. */
    private static void everyByte() {
        check.says("; + - * / ( ) < = > . Blanks (32, 10) between.");
        for (int c = 0; c < 256; c++) {
            GingerRents x = borough();
            String text = "rent 1 " + (char) c + ";";
            if (c == 32 || c == 10) {
                good(x, 0, text, 1);
            } else {
                fault(x, 0, text, 1, ";+-*/".indexOf(c) >= 0 ? 8 : 7);
            }
        }
        GingerRents x = borough();
        good(x, 0, "rent 1+2-3*4/5 when(1<2)or(1=2)or(1>2);", 1);
    }

    private static void blanks() {
        check.says("Blanks (32, 10) between.");
        GingerRents x = borough();
        good(x, 0, "\n\n rent \n 7 \n ; \n", 1);
        check.due("7", x.of(0, 11), 7);
        good(x, 3, "house\n0\nnext\n1\n;\n", 1);
        fault(x, 0, "re nt 7;", 1, 0);
        for (char c : new char[] {0, 9, 11, 13, 31, 33, 160}) {
            fault(x, 0, "rent" + c + "7;", 1, 4);
        }
    }

    private static void rent(String e, int due) {
        GingerRents x = borough();
        good(x, 0, "rent " + e + ";", 1);
        check.due("rent " + e, x.of(0, 11), due);
    }

    private static void intsWrap() {
        check.says("Ints, which wrap");
        // 9999*9999 is 99980001: 21 of them are 2099580021, 22 are above an int.
        rent("9999*9999*21", 99);
        rent("9999*9999*22", 0);
        rent("9999*9999*21+9999*9999", 0);
        rent("0-9999*9999*21", 0);
        rent("0-9999*9999*21-9999*9999", 99);
        // 99980001 times 43 is 4299140043, which is 4172747 behind 4294967296.
        rent("9999*9999*43/9999", 99);
        rent("9999*9999*43/9999/99", 4);
        rent("1 when 9999*9999*22<0", 1);
        rent("1 when 9999*9999*22<0 and 9999*9999*43>0", 1);
    }

    private static void partsTowardsNothing() {
        check.says("/ goes towards 0");
        rent("7/2", 3);
        rent("1/9999", 0);
        rent("9999/9999", 1);
        rent("7/1", 7);
        rent("99/100*100", 0);
        // 9999*9999*22 is -2095407274; by 9999 -209561, by 9999 -20, by 9 -2.
        rent("50+9999*9999*22/9999", 0);
        rent("50+9999*9999*22/9999/9999", 30);
        rent("50+9999*9999*22/9999/9999/9", 48);
        rent("50+9999*9999*22/9999/9999/21", 50);
    }

    private static void firstFaultByPlace() {
        check.says("FAULTS, the first by its place");
        GingerRents x = borough();
        fault(x, 0, "rent 1/0 nonsense;", 2, 7);
        fault(x, 0, "rent nonsense/0;", 1, 5);
        fault(x, 0, "rent 1 when (((((((((1=1/0", 3, 20);
        fault(x, 1, "in 1000 nonsense", 2, 3);
        fault(x, 1, "in 1 rain 10 nonsense", 2, 10);
        fault(x, 2, "in 0 ice 3 0;", 2, 9);
        fault(x, 2, "in 0 bake 0 4 0;", 2, 12);
        fault(x, 3, "house 3 next 3;", 2, 6);
        fault(x, 3, "house 0 nxt 0;", 1, 8);
        fault(x, 0, LINE[0].repeat(16) + "rent 1/0;", 3, 112);
        fault(x, 0, LINE[0].repeat(15) + "rent 1/0;" + LINE[0].repeat(2), 2, 112);
    }

    private static void leastFaultAtOnePlace() {
        check.says("at one place the least");
        GingerRents x = borough();
        fault(x, 0, "rent 1 0000;", 1, 7);
        fault(x, 0, "rent 1/00000;", 1, 7);
        fault(x, 1, "in 10000 thaw;", 1, 3);
        fault(x, 1, "in 0 thaw 10;", 1, 10);
        fault(x, 2, "in 0 wed 0 3;", 1, 11);
        fault(x, 3, "house 0 0;", 1, 8);
        fault(x, 0, LINE[0].repeat(16) + "1", 1, 112);
        fault(x, 0, LINE[0].repeat(16) + "when", 1, 112);
        fault(x, 0, "rent 1 when (((((((( )", 1, 21);
        fault(x, 0, "rent 1 when not not not not not not not not and", 1, 44);
    }

    private static void endIsTheLength() {
        check.says("1 what can't stand there (the end: the text's length)");
        GingerRents x = borough();
        String[] law = {"rent", "rent 1", "rent 1+", "rent 1*", "rent 1/", "rent 1 when", "rent 1 when 1", "rent 1 when 1<", "rent 1 when 1<2",
            "rent 1 when 1<2 or", "rent 1 when 1<2 and", "rent 1 when not", "rent 1 when (", "rent 1 when (1<2", "rent 1 when (1<2)", "rent 1;rent"};
        for (String text : law) {
            fault(x, 0, text, 1, text.length());
            fault(x, 0, text + " \n ", 1, text.length() + 3);
        }
        x = borough();
        for (String text : new String[] {"in", "in 0", "in 0 rain", "in 0 rain 1", "in 0 frost", "in 0 thaw", "in 0 thaw;in"}) {
            fault(x, 1, text, 1, text.length());
        }
        for (String text : new String[] {"in", "in 0", "in 0 ice", "in 0 ice 0", "in 0 ice 0 1", "in 0 bake 0 0", "in 0 wed", "in 0 wed 0", "in 0 raze 0"}) {
            fault(x, 2, text, 1, text.length());
        }
        for (String text : new String[] {"house", "house 0", "house 0 next", "house 0 next 1"}) {
            fault(x, 3, text, 1, text.length());
        }
    }

    private static void partByNothing() {
        check.says("2 (at the NUMBER) a part by 0");
        GingerRents x = borough();
        fault(x, 0, "rent wall/0;", 2, 10);
        fault(x, 0, "rent wall/ 0000;", 2, 11);
        fault(x, 0, "rent 0/0;", 2, 7);
        fault(x, 0, "rent 1 when 1/0=1;", 2, 14);
        fault(x, 0, "rent 1 when 1=1/0;", 2, 16);
        good(x, 0, "rent 0/1;", 1);
        good(x, 0, "rent 0*0;", 1);
        fault(x, 0, "rent 1/wall;", 1, 7);
    }

    private static void beyondBounds() {
        check.says("one beyond its bounds");
        GingerRents x = borough();
        fault(x, 1, "in 0 thaw; in 1000 frost;", 2, 14);
        fault(x, 1, "in 0 rain  10;", 2, 11);
        fault(x, 2, "in  1000 raze 0;", 2, 4);
        fault(x, 2, "in 0 bake 0  4 1;", 2, 13);
        fault(x, 2, "in 0 bake 0 0  0;", 2, 15);
        fault(x, 2, "in 0 ice 0  9999;", 2, 12);
    }

    private static void houseThatThereIsNot() {
        check.says("a HOUSE that there is not");
        GingerRents none = new GingerRents();
        fault(none, 2, "in 0 wed 0;", 2, 9);
        fault(none, 3, "house 0 next 1;", 2, 6);
        GingerRents x = borough();
        fault(x, 2, "in 0 ice 3 1;", 2, 9);
        fault(x, 2, "in 0 bake 3 0 1;", 2, 10);
        fault(x, 2, "in 0 wed 3;", 2, 9);
        fault(x, 2, "in 0 raze 12;", 2, 10);
        fault(x, 3, "house 3 next 0;", 2, 6);
        fault(x, 3, "house 0 next 3;", 2, 13);
        good(x, 3, "house 2 next 0;", 1);
        good(x, 2, "in 0 raze 2;", 1);
        x.house(0, 0, 0);
        good(x, 2, "in 0 ice 3 1;", 1);
        good(x, 3, "house 3 next 0;", 1);
        for (int i = 4; i < 12; i++) {
            x.house(0, 0, 0);
        }
        good(x, 3, "house 11 next 10;", 1);
        fault(x, 3, "house 11 next 12;", 2, 14);
    }

    private static void sameHouseAgain() {
        check.says("the same HOUSE again (of NEXT)");
        GingerRents x = borough();
        for (int h = 0; h < 3; h++) {
            fault(x, 3, "house " + h + " next " + h + ";", 2, 13);
        }
        fault(x, 3, "house 1 next 0001;", 2, 13);
        good(x, 3, "house 0 next 1;house 0 next 2;house 1 next 2;", 3);
    }

    private static void seventeenthLine() {
        check.says("3 (at its KEYWORD) the 17th line of a text");
        for (int k = 0; k < 4; k++) {
            GingerRents x = borough();
            String sixteen = LINE[k].repeat(16);
            fault(x, k, sixteen + " \n" + LINE[k], 3, sixteen.length() + 2);
            fault(x, k, sixteen + LINE[k].substring(0, LINE[k].indexOf(' ')), 3, sixteen.length());
            fault(x, k, sixteen + ";", 1, sixteen.length());
            fault(x, k, sixteen + LINE[k].substring(1), 1, sixteen.length());
        }
        GingerRents x = borough();
        fault(x, 0, "rent 1;gnaws 1;melts 1;".repeat(5) + "rent 1;melts 1;", 3, 122);
    }

    private static void ninthOpen() {
        check.says("(at it) the 9th ( or not that is open");
        GingerRents x = borough();
        good(x, 0, "rent 1 when " + "(".repeat(8) + "1=1" + ")".repeat(8) + ";", 1);
        fault(x, 0, "rent 1 when " + "(".repeat(9) + "1=1" + ")".repeat(9) + ";", 3, 20);
        good(x, 0, "rent 1 when " + "not ".repeat(8) + "1=1;", 1);
        fault(x, 0, "rent 1 when " + "not ".repeat(9) + "1=1;", 3, 44);
        good(x, 0, "rent 1 when " + "not(".repeat(4) + "1=1))));", 1);
        fault(x, 0, "rent 1 when " + "not(".repeat(4) + "(1=1)))));", 3, 28);
        fault(x, 0, "rent 1 when " + "not(".repeat(4) + "not 1=1))));", 3, 28);
        fault(x, 0, "rent 1 when (" + "not ".repeat(7) + "(1=1));", 3, 41);
        good(x, 0, "rent 1 when " + "not ".repeat(7) + "(1=1);", 1);
    }

    private static void openOnly() {
        check.says("the 9th ( or not that is open");
        GingerRents x = borough();
        good(x, 0, "rent 1 when " + "(1=1)and".repeat(9) + "(1=1);", 1);
        good(x, 0, "rent 1 when " + "not 1=1 or ".repeat(9) + "not 1=1;", 1);
        good(x, 0, "rent 1 when (((((((1=1 and(1=1)and not 1=2 and(1=1))))))));", 1);
        fault(x, 0, "rent 1 when (((((((1=1 and(1=1)and not not 1=2)))))));", 3, 39);
        good(x, 0, "rent 1 when not(not 1=1 and not 1=1)and " + "(".repeat(8) + "1=1" + ")".repeat(8) + ";", 1);
        String eight = " when " + "(".repeat(8) + "1=1" + ")".repeat(8) + ";";
        good(x, 0, "rent 1" + eight + "gnaws 1" + eight, 2);
    }

    private static void when(String b, boolean due) {
        GingerRents x = borough();
        good(x, 0, "rent 1 when " + b + ";rent 2;", 2);
        check.due("when " + b, x.of(0, 11), due ? 1 : 2);
    }

    private static void comparedAlike() {
        check.says("C = E (< | = | >) E | not C | ( B ).");
        when("wall<11", true);
        when("wall<10", false);
        when("wall=10", true);
        when("wall=11", false);
        when("wall>9", true);
        when("wall>10", false);
        when("not wall>10", true);
        when("not not wall>10", false);
        when("(wall=10)", true);
        when("not(wall=10)", false);
        when("not wall=11 and wall=11", false);
        when("not(wall=11 and wall=11)", true);
        when("not wall=11 and wall=10", true);
        when("wall=10 and wall>9 and wall<11 and not wall=11", true);
    }

    private static void andBeforeOr() {
        check.says("B = A {or A}. A = C {and C}.");
        when("1=1 or 1=1 and 1=2", true);
        when("(1=1 or 1=1)and 1=2", false);
        when("1=2 and 1=1 or 1=1", true);
        when("1=2 and(1=1 or 1=1)", false);
        when("1=2 or 1=2", false);
        when("1=1 and 1=1", true);
        GingerRents x = borough();
        fault(x, 0, "rent 1 when 1=1 or;", 1, 18);
        fault(x, 0, "rent 1 when 1=1 and;", 1, 19);
        fault(x, 0, "rent 1 when or 1=1;", 1, 12);
        fault(x, 0, "rent 1 when ();", 1, 13);
    }

    private static void lawLineWithoutMore() {
        check.says("0 THE LAW = {(rent | gnaws | melts) E [when B] ;}.");
        GingerRents x = borough();
        good(x, 0, "rent 1;gnaws 2;melts 3;", 3);
        good(x, 0, "rent 1 when 1=1;gnaws 2 when 1=1;melts 3 when 1=1;", 3);
        fault(x, 0, "rent;", 1, 4);
        fault(x, 0, "rent 1 when;", 1, 11);
        fault(x, 0, "rent 1 when 1=1 when 1=1;", 1, 16);
        fault(x, 0, "when 1=1;", 1, 0);
        fault(x, 0, "rent 1;;", 1, 7);
        fault(x, 0, ";", 1, 0);
    }

    private static void skyLineWithoutMore() {
        check.says("1 SKY = {in QUARTER (rain N | frost | thaw) ;}");
        GingerRents x = borough();
        fault(x, 1, "in;", 1, 2);
        fault(x, 1, "in rain 1;", 1, 3);
        fault(x, 1, "in 1;", 1, 4);
        fault(x, 1, "in 1 rain;", 1, 9);
        fault(x, 1, "in 1 frost 1;", 1, 11);
        fault(x, 1, "in 1 rain 1 1;", 1, 12);
        fault(x, 1, "in 1 in;", 1, 5);
        fault(x, 1, "rain 1;", 1, 0);
        fault(x, 1, "in 1 thaw", 1, 9);
    }

    private static void officeLineWithoutMore() {
        check.says("2 OFFICE = {in QUARTER (ice HOUSE N | bake HOUSE WALL N | wed HOUSE | raze HOUSE) ;}");
        GingerRents x = borough();
        fault(x, 2, "in 1 ice 1;", 1, 10);
        fault(x, 2, "in 1 ice 1 1 1;", 1, 13);
        fault(x, 2, "in 1 bake 1 1;", 1, 13);
        fault(x, 2, "in 1 bake 1 1 1 1;", 1, 16);
        fault(x, 2, "in 1 wed;", 1, 8);
        fault(x, 2, "in 1 wed 1 1;", 1, 11);
        fault(x, 2, "in 1 raze;", 1, 9);
        fault(x, 2, "in 1 raze 1 1;", 1, 12);
        fault(x, 2, "in 1 1;", 1, 5);
        fault(x, 2, "in wed 1;", 1, 3);
        fault(x, 2, "wed 1;", 1, 0);
    }

    private static void longestSums() {
        check.says("E = T {(+ | -) T}. T = U {* U | / NUMBER}.");
        GingerRents x = borough();
        good(x, 0, "rent 7;", 1);
        String sum = "rent1" + "+1".repeat(197) + ";";
        good(x, 0, sum, 1);
        check.due("198 ones, held", x.of(0, 11), 99);
        good(x, 0, sum.replace("+1+1", "+1-1"), 1);
        check.due("by turns", x.of(0, 11), 2);
        good(x, 0, "rent9" + "/1".repeat(98) + "*1".repeat(99) + ";", 1);
        check.due("9", x.of(0, 11), 9);
        good(x, 0, "rent 9 when " + "1=1 and ".repeat(47) + "1=1;", 1);
        check.due("48 that are so", x.of(0, 11), 9);
        good(x, 0, "rent 8 when " + "1=2 or ".repeat(54) + "1=1;", 1);
        check.due("the last of 55", x.of(0, 11), 8);
    }

    private static void restOfTheHouse() {
        check.says("sum: of its WALLS; the rest the HOUSE's; rain; frost; quarter.");
        GingerRents x = borough();
        Check.walls(x, 1, 99, 99, 99, 99);
        good(x, 0, "rent sum/4 when sum=396;rent 1 when sum=40;rent 2;", 3);
        check.due("the most", x.of(1, 11), 99);
        check.due("another house's", x.of(0, 11), 1);
        Check.walls(x, 0, 0, 0, 0, 0);
        good(x, 0, "rent 7 when sum=0 and wall=0;rent 2;", 2);
        check.due("the least", x.of(0, 11), 7);
    }

    /** A house of which each word is another number. */
    private static void eachWord() {
        check.says("U = NUMBER | wall | sum | almonds | teeth | hard | icing | lodgers | door | age | rain | frost | quarter.");
        GingerRents x = Check.quiet(2, 1);
        x.quarters(60);
        good(x, 0, "rent 90 when quarter=60;rent 0;gnaws 0;melts 0;", 4);
        Check.tell(x, 1, "in 61 frost;");
        x.quarters(1);
        x.set(0, 0, 50);
        x.set(7, 0, 20);
        x.act(20, 0, 0);
        x.quarters(1);
        Check.walls(x, 0, 7, 30, 4, 3);
        x.set(4, 0, 5);
        x.set(5, 0, 6);
        x.set(6, 0, 8);
        x.set(8, 0, 9);
        String[] words = {"13", "wall", "sum", "almonds", "teeth", "hard", "icing", "lodgers", "door", "age", "rain", "frost", "quarter"};
        int[] due = {13, 30, 44, 5, 6, 8, 86, 21, 1, 61, 9, 1, 62};
        for (int i = 0; i < words.length; i++) {
            good(x, 0, "rent " + words[i] + ";", 1);
            check.due("rent " + words[i], x.of(0, 11), due[i]);
        }
    }

    private static void firstLineThatIsSo() {
        check.says("E of the first line with that word whose B is so, or that has none");
        GingerRents x = borough();
        good(x, 0, "gnaws 9;rent 8 when wall>10;rent 7 when wall=10;rent 6;rent 5 when 1=1;", 5);
        check.due("the first that is so", x.of(0, 11), 7);
        x.set(2, 0, 11);
        check.due("an earlier one", x.of(0, 11), 8);
        Check.walls(x, 0, 9, 9, 9, 9);
        check.due("one without", x.of(0, 11), 6);
        good(x, 0, "rent 1 when 1=2;".repeat(15) + "rent 33;", 16);
        check.due("the sixteenth", x.of(0, 11), 33);
    }

    private static void noneIsSo() {
        check.says("(none: rent: 4 and 2 times lodgers, gnaws: 300 less 30 times hard, melts: rain less hard)");
        GingerRents x = borough();
        good(x, 0, "rent 1 when 1=2;gnaws 1 when 1=2;melts 1 when 1=2;", 3);
        x.set(8, 0, 9);
        check.due("rent", x.of(0, 11), 6);
        check.due("gnaws", x.of(0, 20), 300);
        check.due("melts", x.of(0, 30), 9);
        good(x, 0, "rent 1;", 1);
        check.due("gnaws of no line", x.of(0, 20), 300);
        good(x, 0, "gnaws 1;", 1);
        check.due("rent of no line", x.of(0, 11), 6);
        check.due("melts of no line", x.of(0, 30), 9);
    }

    private static int told(String word, String e, int what) {
        GingerRents x = borough();
        good(x, 0, word + " " + e + ";", 1);
        return x.of(0, what);
    }

    private static void heldRent() {
        check.says("rent, melts held to 0 .. 99");
        String[] e = {"0-9999", "0-1", "0", "1", "98", "99", "100", "9999"};
        int[] due = {0, 0, 0, 1, 98, 99, 99, 99};
        for (int i = 0; i < e.length; i++) {
            check.due("rent " + e[i], told("rent", e[i], 11), due[i]);
        }
    }

    private static void heldMelts() {
        check.says("rent, melts held to 0 .. 99");
        String[] e = {"0-9999", "0-1", "0", "1", "98", "99", "100", "9999"};
        int[] due = {0, 0, 0, 1, 98, 99, 99, 99};
        for (int i = 0; i < e.length; i++) {
            check.due("melts " + e[i], told("melts", e[i], 33), due[i]);
        }
    }

    private static void heldGnaws() {
        check.says("gnaws to 0 .. 1000");
        String[] e = {"0-9999", "0-1", "0", "1", "99", "100", "999", "1000", "1001", "9999"};
        int[] due = {0, 0, 0, 1, 99, 100, 999, 1000, 1000, 1000};
        for (int i = 0; i < e.length; i++) {
            check.due("gnaws " + e[i], told("gnaws", e[i], 22), due[i]);
        }
    }

    private static void heldWithoutALaw() {
        check.says("rent, melts held to 0 .. 99, gnaws to 0 .. 1000");
        GingerRents x = borough();
        int[] lodgers = {0, 1, 47, 48, 99};
        int[] rent = {4, 6, 98, 99, 99};
        for (int i = 0; i < lodgers.length; i++) {
            x.set(7, 0, lodgers[i]);
            check.due("rent of " + lodgers[i], x.of(0, 11), rent[i]);
        }
        x.set(8, 0, 5);
        int[] hard = {0, 4, 5, 6, 9};
        int[] melts = {5, 1, 0, 0, 0};
        int[] gnaws = {300, 180, 150, 120, 30};
        for (int i = 0; i < hard.length; i++) {
            x.set(6, 0, hard[i]);
            check.due("melts of " + hard[i], x.of(0, 30), melts[i]);
            check.due("gnaws of " + hard[i], x.of(0, 20), gnaws[i]);
        }
    }

    private static void wallThatIsAsked() {
        check.says("wall: of which is asked (rent: the thickest, of several the least; gnaws, melts: that WALL)");
        GingerRents x = borough();
        Check.walls(x, 0, 0, 40, 7, 40);
        good(x, 0, "rent wall;gnaws wall*10+1;melts wall+2;", 3);
        check.due("rent", x.of(0, 11), 40);
        int[] wall = {0, 40, 7, 40};
        for (int w = 0; w < 4; w++) {
            check.due("gnaws " + w, x.of(0, 20 + w), wall[w] * 10 + 1);
            check.due("melts " + w, x.of(0, 30 + w), wall[w] + 2);
        }
        good(x, 0, "rent sum;", 1);
        check.due("sum", x.of(0, 11), 87);
    }

    private static void tapeIsFull() {
        check.says("NONE, and nothing comes, if there would be more than 400.");
        GingerRents x = borough();
        for (int i = 1; i <= 20; i++) {
            check.due("feed " + i, x.feed(0x20202020, 0x20202020, 0x20202020, 0x20202020, 0x20202020), 20 * i);
        }
        check.due("one more", x.feed('x', 'x', 'x', 'x', 'x'), -1);
        check.due("400 yet", x.end(400), true);
        check.due("nothing came: all is blank", x.text(0), 0);
        for (int i = 1; i <= 20; i++) {
            x.feed(0x20202020, 0x20202020, 0x20202020, 0x20202020, 0x20202020);
        }
        x.end(381);
        check.due("401 would be", x.feed('x', 'x', 'x', 'x', 'x'), -1);
        check.due("not 382", x.end(382), false);
        x.end(380);
        check.due("400 would be", x.feed(0x20202020, 0x20202020, 0x20202020, 0x20202020, 'x' << 24), 400);
        check.due("the last came", x.text(0), -1);
        check.due("its place", x.fault(1), 396);
    }

    /** As many tokens as there can be, and the end behind them. */
    private static void tapeFullOfTokens() {
        check.says("if there would be more than 400");
        for (char c : new char[] {';', '(', '1', 'r', '?'}) {
            GingerRents x = borough();
            fault(x, 0, ("" + c).repeat(400), 1, 0);
            fault(x, 3, ("" + c).repeat(400), 1, 0);
        }
        GingerRents x = borough();
        fault(x, 0, "rent" + "+".repeat(396), 1, 4);
        fault(x, 0, "rent1" + "+1".repeat(197) + "+", 1, 400);
        good(x, 0, " ".repeat(393) + "rent 5;", 1);
        check.due("the last bytes count", x.of(0, 11), 5);
    }

    private static void highestByteFirst() {
        check.says("Twenty bytes come behind the TAPE, of each number the highest first: how many it has.");
        GingerRents x = borough();
        // "rent" " 12;" "rent" " 34;" "    ": the first line counts.
        check.due("twenty", x.feed(0x72656e74, 0x2031323b, 0x72656e74, 0x2033343b, 0x20202020), 20);
        check.due("lines", x.text(0), 2);
        check.due("rent", x.of(0, 11), 12);
        for (int i = 0; i < 5; i++) {
            int[] v = {0x20202020, 0x20202020, 0x20202020, 0x20202020, 0x20202020};
            v[i] = 0x20202080;
            x.feed(v[0], v[1], v[2], v[3], v[4]);
            check.due("a byte above 127", x.text(0), -1);
            check.due("its place", x.fault(1), 4 * i + 3);
            v[i] = 0xff202020;
            x.feed(v[0], v[1], v[2], v[3], v[4]);
            x.text(0);
            check.due("the highest byte", x.fault(1), 4 * i);
        }
        x.feed(0x20202020, 0x20202020, 0x20202020, 0x20202020, 0x20202020);
        x.end(3);
        check.due("behind what is left", x.feed(0, 0, 0, 0, 0), 23);
    }

    private static void endBounds() {
        check.says("The TAPE has its first n bytes alone: true; false, changing nothing, if it has not so many, or n is below 0.");
        GingerRents x = borough();
        check.due("0 of nothing", x.end(0), true);
        check.due("1 of nothing", x.end(1), false);
        check.due("-1 of nothing", x.end(-1), false);
        Check.put(x, "rent 12;rent 34;");
        for (int n : new int[] {LEAST, -1, 17, 400, MOST}) {
            check.due("end " + n, x.end(n), false);
        }
        check.due("all of it", x.end(16), true);
        check.due("nothing was cut", x.text(0), 2);
        Check.put(x, "rent 12;rent 34;");
        check.due("8 of it", x.end(8), true);
        check.due("no longer 9", x.end(9), false);
        check.due("one line", x.text(0), 1);
        Check.put(x, "rent 12;rent 34;");
        check.due("none of it", x.end(0), true);
        check.due("no line", x.text(0), 0);
    }

    private static void tapeIsEmptyThen() {
        check.says("The TAPE, empty then, is TEXT k");
        for (int k = -1; k <= 4; k++) {
            GingerRents x = borough();
            Check.put(x, k < 0 || k > 3 ? "rent 1;" : LINE[k]);
            x.text(k);
            check.due("behind text " + k, x.end(1), false);
            Check.put(x, "nonsense");
            x.text(k);
            check.due("behind a fault of " + k, x.end(1), false);
            check.due("from the start", x.feed(0, 0, 0, 0, 0), 20);
        }
    }

    private static void noSuchText() {
        check.says("NONE: no such one (fault() tells 0)");
        for (int k : new int[] {LEAST, -1, 4, MOST}) {
            GingerRents x = borough();
            for (int t = 0; t < 4; t++) {
                good(x, t, LINE[t], 1);
            }
            x.quarters(1);
            String before = Digest.borough(x);
            check.due("nonsense", Check.tell(x, 0, "nonsense"), -1);
            check.due("its fault", x.fault(0), 1);
            check.due("text " + k, Check.tell(x, k, "nonsense"), -1);
            check.due("no fault", x.fault(0), 0);
            check.due("no place", x.fault(1), -1);
            check.due("all as it was", Digest.borough(x), before);
        }
    }

    private static void faultStaysAsItWas() {
        check.says("or a FAULT (it stays as it was)");
        GingerRents x = borough();
        good(x, 0, "rent 33;", 1);
        good(x, 1, "in 1 rain 7;", 1);
        good(x, 2, "in 1 bake 0 0 5;", 1);
        good(x, 3, "house 0 next 1;", 1);
        fault(x, 0, "rent 44;rent 55;rent", 1, 20);
        fault(x, 1, "in 1 rain 2;in 1 rain 3;in", 1, 26);
        fault(x, 2, "in 1 bake 0 0 9;in 1 raze 1;in", 1, 30);
        fault(x, 3, "house 1 next 2;house 0 next 2;house", 1, 35);
        check.due("rent", x.of(0, 11), 33);
        check.due("next", x.of(0, 12), 2);
        Check.tell(x, 0, "rent 0;gnaws 0;melts 0;");
        x.quarters(2);
        check.due("rain", x.look(1), 7);
        check.due("baked", x.of(0, 0), 15);
        check.due("not razed", x.look(6), 7);
    }

    private static void faultOfTheLatest() {
        check.says("Of the latest text() what 0 the FAULT (0 without one), 1 its place (NONE).");
        GingerRents x = borough();
        check.due("before any", x.fault(0), 0);
        check.due("no place before any", x.fault(1), -1);
        fault(x, 0, "rent 1/0;", 2, 7);
        fault(x, 1, "nonsense", 1, 0);
        check.due("asked again", x.fault(0), 1);
        x.feed(0, 0, 0, 0, 0);
        x.end(0);
        x.quarters(1);
        check.due("the latest yet", x.fault(0), 1);
        good(x, 1, "", 0);
    }

    private static void faultOfAnotherWhat() {
        check.says("NONE for another what.");
        GingerRents x = borough();
        fault(x, 0, "rent 1/0;", 2, 7);
        for (int what : new int[] {LEAST, -1, 2, 3, MOST}) {
            check.due("fault " + what, x.fault(what), -1);
        }
    }
}
