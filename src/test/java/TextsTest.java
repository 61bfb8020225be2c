/** Promises 7 to 10: the tape, the four texts, their faults; and what a law reckons. */
public final class TextsTest {
    private static final Check check = new Check();

    public static void main(String[] args) {
        tape();
        tokens();
        lawFaults();
        openFaults();
        skyFaults();
        officeFaults();
        nextFaults();
        lines();
        faultStays();
        arithmetic();
        conditions();
        check.finish("TextsTest");
    }

    private static GingerRents borough() {
        GingerRents x = new GingerRents();
        x.house(10, 0, 0);
        x.house(10, 0, 0);
        x.house(10, 0, 0);
        return x;
    }

    private static void tape() {
        GingerRents x = new GingerRents();
        for (int i = 1; i <= 20; i++) {
            check.due("feed " + i, x.feed(0, 0, 0, 0, 0), 20 * i);
        }
        check.due("above 400", x.feed(0, 0, 0, 0, 0), -1);
        check.due("401", x.end(401), false);
        check.due("-1", x.end(-1), false);
        check.due("400", x.end(400), true);
        check.due("381", x.end(381), true);
        check.due("no room for twenty", x.feed(0, 0, 0, 0, 0), -1);
        check.due("380", x.end(380), true);
        check.due("not longer", x.end(381), false);
        check.due("room", x.feed(0, 0, 0, 0, 0), 400);
        check.due("0", x.end(0), true);
        check.due("from the start", x.feed(0, 0, 0, 0, 0), 20);
        x.end(0);
        // "rent 12;" with its bytes told one by one, the highest first.
        x.feed('r' << 24 | 'e' << 16 | 'n' << 8 | 't', ' ' << 24 | '1' << 16 | '2' << 8 | ';', 0, 0, 0);
        x.end(8);
        x.house(9, 0, 0);
        check.due("one line", x.text(0), 1);
        check.due("rent", x.of(0, 11), 12);
        check.due("the tape is empty then", x.end(1), false);
        x.quarters(1);
        x.feed(0, 0, 0, 0, 0);
        x.end(3);
        check.due("the tape forgets nothing", x.look(13), 1);
        check.due("no such text", x.text(4), -1);
        check.due("no such text: no fault", x.fault(0), 0);
        check.due("no such text: no place", x.fault(1), -1);
        check.due("no such text: the tape is empty", x.end(1), false);
        check.due("no such text: nothing is forgotten", x.look(13), 1);
        check.due("no such text: the law stays", x.look(9), 1);
        x.feed('x' << 24, 0, 0, 0, 0);
        check.due("a fault", x.text(0), -1);
        check.due("its place", x.fault(1), 0);
        x.feed('x' << 24, 0, 0, 0, 0);
        check.due("text -1", x.text(-1), -1);
        check.due("text -1: no fault", x.fault(0), 0);
        check.due("text -1: no place", x.fault(1), -1);
        check.due("text -1: from the start", x.feed(0, 0, 0, 0, 0), 20);
        check.due("the lowest number", x.text(Integer.MIN_VALUE), -1);
        check.due("the lowest number: from the start", x.feed(0, 0, 0, 0, 0), 20);
        check.due("the highest number", x.text(Integer.MAX_VALUE), -1);
        check.due("the highest number: from the start", x.feed(0, 0, 0, 0, 0), 20);
    }

    private static void fault(GingerRents x, int k, String text, int what, int place) {
        check.due(text, Check.tell(x, k, text), -1);
        check.due(text + " (fault)", x.fault(0), what);
        check.due(text + " (place)", x.fault(1), place);
        check.due(text + " (tape)", x.end(1), false);
    }

    private static void good(GingerRents x, int k, String text, int lines) {
        check.due(text, Check.tell(x, k, text), lines);
        check.due(text + " (fault)", x.fault(0), 0);
        check.due(text + " (place)", x.fault(1), -1);
    }

    private static void tokens() {
        GingerRents x = borough();
        good(x, 0, "rent4;", 1);
        good(x, 0, "rent 4*lodgers;", 1);
        good(x, 0, "rent 4 when 1<2and 3>2or not 1=2;", 1);
        good(x, 0, "\n rent\n\n7 ; \n", 1);
        good(x, 0, "   ", 0);
        good(x, 0, "rent 0001;", 1);
        good(x, 0, "rent 9999;", 1);
        fault(x, 0, "rent 00001;", 1, 5);
        fault(x, 0, "rentX 1;", 1, 0);
        fault(x, 0, "Rent 1;", 1, 0);
        fault(x, 0, "RENT 1;", 1, 0);
        fault(x, 0, "rent 1 whenwall=2;", 1, 7);
        fault(x, 0, "rent\t1;", 1, 4);
        fault(x, 0, "rent 1\r;", 1, 6);
        fault(x, 0, "rent 1 " + (char) 200 + ";", 1, 7);
        fault(x, 0, "rent 1 " + (char) 0 + ";", 1, 7);
        fault(x, 0, "rent 1,", 1, 6);
        fault(x, 0, "rent 1. ;", 1, 6);
        fault(x, 0, "rent in;", 1, 5);
        fault(x, 0, "rent house;", 1, 5);
        good(x, 1, "in4rain4;", 1);
        fault(x, 1, "in 4 wall;", 1, 5);
        check.due("fault -1", x.fault(-1), -1);
        check.due("fault 2", x.fault(2), -1);
    }

    private static void lawFaults() {
        GingerRents x = borough();
        fault(x, 0, "rent", 1, 4);
        fault(x, 0, "rent  ", 1, 6);
        fault(x, 0, "rent 1", 1, 6);
        fault(x, 0, "rent 1 when", 1, 11);
        fault(x, 0, "rent 1 when 1", 1, 13);
        fault(x, 0, "rent 1 when 1<", 1, 14);
        fault(x, 0, "rent 1 when 1<2", 1, 15);
        fault(x, 0, "rent 1 when 1<2 and", 1, 19);
        fault(x, 0, "rent 1 when (1<2;", 1, 16);
        fault(x, 0, "rent 1 when 1<2);", 1, 15);
        fault(x, 0, "rent 1 when 1<2<3;", 1, 15);
        fault(x, 0, "rent 1 when not;", 1, 15);
        fault(x, 0, "rent 1 when (wall)=1;", 1, 17);
        fault(x, 0, "rent (1);", 1, 5);
        fault(x, 0, "rent -1;", 1, 5);
        fault(x, 0, "rent 1+;", 1, 7);
        fault(x, 0, "rent 1 2;", 1, 7);
        fault(x, 0, "rent 1**2;", 1, 7);
        fault(x, 0, "rent 1/wall;", 1, 7);
        fault(x, 0, "rent 1/0;", 2, 7);
        fault(x, 0, "rent 1/0000;", 2, 7);
        fault(x, 0, "rent 1/00000;", 1, 7);
        fault(x, 0, "rent 1 when 1<2/ 0;", 2, 17);
        fault(x, 0, "rent 1/0 nonsense", 2, 7);
        fault(x, 0, "rent nonsense 1/0;", 1, 5);
        fault(x, 0, ";", 1, 0);
        fault(x, 0, "rent 1;;", 1, 7);
        fault(x, 0, "rent 1; when 1<2;", 1, 8);
        fault(x, 0, "rent rent;", 1, 5);
        fault(x, 0, "rent when;", 1, 5);
        fault(x, 0, "rent 1 or 2<3;", 1, 7);
        fault(x, 0, "rent 1 when 1+2;", 1, 15);
        good(x, 0, "rent 1/2*3/4+5-6*wall;", 1);
    }

    private static void openFaults() {
        GingerRents x = borough();
        good(x, 0, "rent 1 when ((((((((1<2))))))));", 1);
        fault(x, 0, "rent 1 when (((((((((1<2)))))))));", 3, 20);
        good(x, 0, "rent 1 when not not not not not not not not 1<2;", 1);
        fault(x, 0, "rent 1 when not not not not not not not not not 1<2;", 3, 44);
        good(x, 0, "rent 1 when not(not(not(not(1<2))));", 1);
        fault(x, 0, "rent 1 when not(not(not(not((1<2)))));", 3, 28);
        fault(x, 0, "rent 1 when not(not(not(not(not 1<2))));", 3, 28);
        fault(x, 0, "rent 1 when ((((((((1<2 and not 1<2))))))));", 3, 28);
        good(x, 0, "rent 1 when not 1<2 and not 1<2 and not 1<2 and not 1<2 and not 1<2 or not 1<2 or not 1<2 or not 1<2 or not 1<2 or not 1<2;", 1);
        good(x, 0, "rent 1 when (((((((1<2 and (1<2)) and (1<2)))))) and (1<2));", 1);
        fault(x, 0, "rent 1 when ((((((((+", 1, 20);
    }

    private static void skyFaults() {
        GingerRents x = borough();
        good(x, 1, "in 0 rain 0;in 999 rain 9;in 5 frost;in 5 thaw;", 4);
        fault(x, 1, "in 1000 thaw;", 2, 3);
        fault(x, 1, "in 1 rain 10;", 2, 10);
        fault(x, 1, "in 1 rain;", 1, 9);
        fault(x, 1, "in 1 thaw 1;", 1, 10);
        fault(x, 1, "in rain 1;", 1, 3);
        fault(x, 1, "in 1 in;", 1, 5);
        fault(x, 1, "in 1 2;", 1, 5);
        fault(x, 1, "in 1 frost", 1, 10);
        fault(x, 1, "in 1000", 2, 3);
        fault(x, 1, "in 10000", 1, 3);
        fault(x, 1, "frost;", 1, 0);
        fault(x, 1, "in 1 wed 0;", 1, 5);
    }

    private static void officeFaults() {
        GingerRents x = borough();
        good(x, 2, "in 0 ice 0 1;in 999 ice 2 99;in 1 bake 2 3 99;in 1 bake 0 0 1;in 7 wed 1;in 8 raze 2;", 6);
        fault(x, 2, "in 1000 wed 9;", 2, 3);
        fault(x, 2, "in 0 ice 3 1;", 2, 9);
        fault(x, 2, "in 0 ice 0 0;", 2, 11);
        fault(x, 2, "in 0 ice 0 100;", 2, 11);
        fault(x, 2, "in 0 ice 0;", 1, 10);
        fault(x, 2, "in 0 bake 3 0 1;", 2, 10);
        fault(x, 2, "in 0 bake 0 4 1;", 2, 12);
        fault(x, 2, "in 0 bake 0 3 0;", 2, 14);
        fault(x, 2, "in 0 bake 0 3 100;", 2, 14);
        fault(x, 2, "in 0 bake 0 3;", 1, 13);
        fault(x, 2, "in 0 wed 3;", 2, 9);
        fault(x, 2, "in 0 raze 3;", 2, 10);
        fault(x, 2, "in 0 raze 1 1;", 1, 12);
        fault(x, 2, "in 0 raze;", 1, 9);
        fault(x, 2, "in 0 rain 1;", 1, 5);
        fault(x, 2, "in 0 2 0 1 5;", 1, 5);
        fault(x, 2, "wed 0;", 1, 0);
        fault(new GingerRents(), 2, "in 0 wed 0;", 2, 9);
    }

    private static void nextFaults() {
        GingerRents x = borough();
        good(x, 3, "house 0 next 1;house 1 next 0;house 0 next 1;house 2 next 1;", 4);
        fault(x, 3, "house 0 next 0;", 2, 13);
        fault(x, 3, "house 3 next 3;", 2, 6);
        fault(x, 3, "house 0 next 3;", 2, 13);
        fault(x, 3, "house 0 next;", 1, 12);
        fault(x, 3, "house 0 house 1;", 1, 8);
        fault(x, 3, "house next 1;", 1, 6);
        fault(x, 3, "next 0 house 1;", 1, 0);
        fault(x, 3, "house 0 next 00000;", 1, 13);
        fault(x, 3, "house 0 next 1", 1, 14);
        check.due("the good ones stay", x.look(12), 4);
    }

    private static void lines() {
        GingerRents x = borough();
        String[] line = {"rent 1;", "in 0 thaw;", "in 0 wed 0;", "house 0 next 1;"};
        for (int k = 0; k < 4; k++) {
            String sixteen = line[k].repeat(16);
            good(x, k, sixteen, 16);
            check.due("sixteen lines", x.look(9 + k), 16);
            fault(x, k, sixteen + line[k], 3, sixteen.length());
            fault(x, k, sixteen + " " + line[k].substring(0, 6), 3, sixteen.length() + 1);
            fault(x, k, sixteen + ";", 1, sixteen.length());
            check.due("sixteen lines yet", x.look(9 + k), 16);
            good(x, k, "", 0);
            check.due("no line", x.look(9 + k), 0);
        }
        good(x, 0, "gnaws 1;".repeat(8) + "melts 1;".repeat(8), 16);
        fault(x, 0, "gnaws 1;".repeat(8) + "melts 1;".repeat(8) + "gnaws", 3, 128);
    }

    private static void faultStays() {
        GingerRents x = borough();
        good(x, 0, "rent 33;", 1);
        fault(x, 0, "rent 44;rent 55", 1, 15);
        check.due("the law stays", x.of(0, 11), 33);
        check.due("one line", x.look(9), 1);
        x.quarters(1);
        fault(x, 1, "in 0", 1, 4);
        fault(x, 2, "in 0", 1, 4);
        check.due("a fault forgets nothing", x.look(13), 1);
        good(x, 0, "rent 1;", 1);
        good(x, 3, "house 0 next 1;", 1);
        check.due("the law and next forget nothing", x.look(13), 1);
        good(x, 1, "", 0);
        check.due("the sky forgets", x.look(13), 0);
        x.quarters(1);
        good(x, 2, "", 0);
        check.due("the office forgets", x.look(13), 0);
        fault(x, 0, "1", 1, 0);
        x.image(true);
        good(x, 0, "", 0);
        x.image(false);
        check.due("fault() is not in the image", x.fault(0), 0);
    }

    private static void rent(String e, int due) {
        GingerRents x = borough();
        check.due(e, Check.tell(x, 0, "rent " + e + ";"), 1);
        check.due(e, x.of(0, 11), due);
    }

    private static void arithmetic() {
        rent("2+3*4", 14);
        rent("2*3+4", 10);
        rent("20-3-4", 13);
        rent("20-3+4", 21);
        rent("20-2*3-4*2", 6);
        rent("7/2", 3);
        rent("7/2*2", 6);
        rent("3*7/2", 10);
        rent("100-9/2*2", 92);
        rent("50+4/2-3*2/4", 51);
        rent("50-7/2/2-1", 48);
        // 9999*9999*30 wraps to -1295567266; parts go towards 0: -129569, -12.
        rent("20+9999*9999*30/9999/9999", 8);
        rent("9999*9999*30", 0);
        rent("9999*9999*50/9999/9999", 7);
        rent("0-7/2+50", 47);
        rent("wall+sum", 50);
    }

    private static void when(String b, boolean due) {
        GingerRents x = borough();
        check.due(b, Check.tell(x, 0, "rent 1 when " + b + ";rent 2;"), 2);
        check.due(b, x.of(0, 11), due ? 1 : 2);
    }

    private static void conditions() {
        when("1<2", true);
        when("2<2", false);
        when("2=2", true);
        when("2>2", false);
        when("3>2", true);
        when("not 3>2", false);
        when("not not 3>2", true);
        when("1=1 or 1=2 and 1=2", true);
        when("1=2 and 1=2 or 1=1", true);
        when("(1=1 or 1=2) and 1=2", false);
        when("1=2 and (1=2 or 1=1)", false);
        when("not 1=2 and 1=2", false);
        when("not (1=2 and 1=2)", true);
        when("not 1=1 or 1=1", true);
        when("not (1=1 or 1=1)", false);
        when("1=2 or 1=2 or 1=1", true);
        when("1=1 and 1=1 and 1=2", false);
        when("2+2<5 and 2*3>5", true);
        when("wall=10 and sum=40 and lodgers=1", true);
        GingerRents x = borough();
        String ones = "rent1" + "+1".repeat(197) + ";";
        check.due("400 bytes", ones.length(), 400);
        good(x, 0, ones, 1);
        check.due("198, held to 99", x.of(0, 11), 99);
        good(x, 0, ones.replace("+1+", "-1+"), 1);
        check.due("by turns one less and one more, at last one more", x.of(0, 11), 2);
        fault(x, 0, ones.substring(0, 399) + "+", 1, 400);
        Check.tell(x, 0, "rent 1 when 1=2;gnaws 2;rent 3 when wall=10;rent 4;");
        check.due("the first whose condition is so", x.of(0, 11), 3);
        Check.tell(x, 0, "rent 1 when 1=2;");
        check.due("none is so", x.of(0, 11), 6);
        Check.tell(x, 0, "rent 5;rent 6;");
        check.due("the first of two", x.of(0, 11), 5);
    }
}
