/** Promises 13 to 17 and 31: how quarters go, how long a house stands, who hears whom, ants, alone. */
public final class ForesightTest {
    private static final Check check = new Check();

    public static void main(String[] args) {
        goes();
        goesByRats();
        ageInThought();
        quarterInThought();
        stands();
        hears();
        heard();
        ants();
        alone();
        check.finish("ForesightTest");
    }

    private static void goes() {
        GingerRents x = new GingerRents();
        x.house(10, 0, 0);
        x.house(1, 0, 0);
        x.act(0, 0, 2);
        Check.tell(x, 0, "rent 6;gnaws 0;melts rain;");
        Check.tell(x, 1, "in 1 rain 1;");
        Check.tell(x, 2, "in 1 wed 0;in 1 ice 1 1;");
        Check.tell(x, 3, "house 0 next 1;");
        x.state(77);
        // Quarter 0: 6 from house 0; 4 from house 1, which owes 2 and goes next door.
        check.due("eaten", x.goes(1, 0), 12);
        check.due("stand", x.goes(1, 1), 1);
        check.due("icing", x.goes(1, 2), 2);
        check.due("lodgers", x.goes(1, 3), 2);
        check.due("icing then", x.goes(2, 2), 1);
        check.due("lodgers then", x.goes(2, 3), 3);
        check.due("eaten then", x.goes(2, 0), 18);
        check.due("all is gone", x.goes(60, 1), 0);
        check.due("nobody is left", x.goes(60, 3), 0);
        check.due("0", x.goes(0, 0), -1);
        check.due("61", x.goes(61, 0), -1);
        check.due("-1", x.goes(-1, 0), -1);
        check.due("what 4", x.goes(1, 4), -1);
        check.due("what -1", x.goes(1, -1), -1);
        check.due("nothing stays: quarter", x.look(5), 0);
        check.due("nothing stays: eaten", x.look(3), 2);
        check.due("nothing stays: wall", x.of(0, 1), 10);
        check.due("nothing stays: state", x.look(8), 77);
        check.due("nothing stays: book", x.look(7), 1);
        check.due("nothing stays: rain", x.look(1), 0);
        x.quarters(2);
        check.due("as it was thought", x.look(3), 18);
    }

    private static void goesByRats() {
        GingerRents x = new GingerRents();
        x.house(5, 0, 0);
        Check.tell(x, 0, "rent 0;melts 0;gnaws 499;");
        check.due("499", x.goes(60, 1), 1);
        check.due("stands at 499", x.stands(0), -1);
        Check.tell(x, 0, "rent 0;melts 0;gnaws 500;");
        check.due("500", x.goes(5, 1), 0);
        check.due("not before", x.goes(4, 1), 1);
        check.due("stands at 500", x.stands(0), 5);
        check.due("gnawed stays", x.look(4), 0);
    }

    /** A house that has stood for all quarters there are but some. */
    private static GingerRents late(int wall, int quartersLeft) {
        GingerRents x = new GingerRents();
        x.house(wall, 0, 0);
        Check.tell(x, 0, "rent 0;gnaws 0;melts 0;");
        for (int i = 0; i < 166; i++) {
            x.quarters(60);
        }
        x.quarters(39 - quartersLeft);
        check.due("quarters are left", x.look(5), 9999 - quartersLeft);
        check.due("age", x.of(0, 10), 9999 - quartersLeft);
        return x;
    }

    private static void ageInThought() {
        GingerRents x = late(1, 1);
        Check.tell(x, 0, "rent 1 when age > 9999;rent 0;gnaws 0;");
        check.due("never above: nobody nibbles", x.goes(60, 0), 0);
        check.due("never above: it stands", x.stands(0), -1);
        Check.tell(x, 0, "rent 1 when age = 9999;rent 0;gnaws 0;");
        check.due("9998 then", x.goes(1, 0), 0);
        check.due("9999 then", x.goes(2, 0), 1);
        check.due("9999 on", x.goes(4, 0), 3);
        check.due("until it falls", x.goes(60, 0), 4);
        check.due("falls in the fifth", x.stands(0), 5);
        x.quarters(1);
        check.due("falls in the fourth", x.stands(0), 4);
        check.due("nothing stays", x.of(0, 10), 9999);
    }

    private static void quarterInThought() {
        GingerRents x = late(1, 1);
        Check.tell(x, 0, "rent 1 when quarter > 9999;rent 0;gnaws 0;");
        check.due("no quarter above", x.goes(60, 0), 0);
        check.due("no quarter above: it stands", x.stands(0), -1);
        Check.tell(x, 0, "rent 1 when quarter = 9999;rent 0;gnaws 0;");
        check.due("quarter 9998 then", x.goes(1, 0), 0);
        check.due("quarter 9999 on", x.goes(4, 0), 3);
        check.due("falls then", x.stands(0), 5);
        check.due("no quarter stays", x.look(5), 9998);
    }

    private static void stands() {
        GingerRents x = new GingerRents();
        x.house(50, 0, 0);
        x.house(0, 0, 0);
        Check.tell(x, 0, "rent 1;melts 0;gnaws 0;");
        check.due("200", x.stands(0), 200);
        x.act(10, 0, 1);
        check.due("201", x.stands(0), -1);
        check.due("not now", x.stands(1), 0);
        check.due("none such", x.stands(2), -2);
        check.due("none such -1", x.stands(-1), -2);
        Check.tell(x, 2, "in 9 raze 0;in 3 bake 1 0 1;");
        check.due("razed in quarter 9", x.stands(0), 10);
        check.due("not now, though it will", x.stands(1), 0);
        x.quarters(9);
        check.due("then one more", x.stands(0), 1);
        check.due("quarter", x.look(5), 9);
        Check.tell(x, 2, "in 9 raze 0;in 9 bake 0 2 5;");
        check.due("razed and baked in one quarter", x.stands(0), -1);
    }

    private static GingerRents street() {
        GingerRents x = new GingerRents();
        int[] wall = {1, 20, 2, 3, 5, 0};
        for (int w : wall) {
            x.house(w, 0, 0);
        }
        // 0-1-2 is short and dear (84, 88), 0-3-4-2 long and cheap (16, 32, 28); 5 is apart.
        Check.tell(x, 3, "house 0 next 1;house 2 next 1;house 0 next 3;house 4 next 3;house 4 next 2;");
        return x;
    }

    private static void hears() {
        GingerRents x = street();
        check.due("0 to 2", x.hears(0, 2), 32);
        check.due("2 to 0", x.hears(2, 0), 32);
        check.due("0 to 1", x.hears(0, 1), 84);
        check.due("1 to 4", x.hears(1, 4), 84);
        check.due("0 to 3", x.hears(0, 3), 16);
        check.due("alike", x.hears(5, 5), 0);
        check.due("not", x.hears(0, 5), -1);
        check.due("6", x.hears(0, 6), -1);
        check.due("-1", x.hears(-1, 0), -1);
        check.due("none alike", x.hears(6, 6), -1);
        x.act(22, 3, 0);
        check.due("through what does not stand", x.hears(0, 2), 28);
        check.due("a step of it", x.hears(0, 3), 4);
        Check.tell(x, 3, "house 5 next 3;");
        check.due("a step of nothing", x.hears(5, 3), 0);
        check.due("no longer", x.hears(0, 2), -1);
    }

    private static void heard() {
        GingerRents x = street();
        check.due("15", x.heard(0, 15), 0);
        check.due("16", x.heard(0, 16), 1);
        check.due("31", x.heard(0, 31), 1);
        check.due("32", x.heard(0, 32), 3);
        check.due("84", x.heard(0, 84), 4);
        check.due("800", x.heard(0, 800), 4);
        check.due("0", x.heard(5, 0), 0);
        check.due("801", x.heard(0, 801), -1);
        check.due("-1", x.heard(0, -1), -1);
        check.due("no house", x.heard(6, 5), -1);
        check.due("no house -1", x.heard(-1, 5), -1);
        GingerRents y = new GingerRents();
        y.house(99, 0, 0);
        y.house(99, 0, 0);
        Check.tell(y, 3, "house 0 next 1;");
        check.due("792", y.heard(0, 792), 1);
        check.due("791", y.heard(0, 791), 0);
    }

    private static void ants() {
        GingerRents x = street();
        check.due("0 to 2: 16 + 32 + 28", x.ants(0, 2), 76);
        check.due("2 to 0", x.ants(2, 0), 76);
        check.due("0 to 1", x.ants(0, 1), 84);
        check.due("1 to 4: 88 + 28", x.ants(1, 4), 116);
        check.due("alike", x.ants(5, 5), 0);
        check.due("not", x.ants(5, 0), -1);
        check.due("6", x.ants(6, 0), -1);
        check.due("-1", x.ants(0, -1), -1);
        check.due("none alike", x.ants(6, 6), -1);
    }

    private static void alone() {
        GingerRents x = street();
        // 5 does not stand; a ring of five: two of them, the least set 0 and 2.
        check.due("how many", x.alone(0), 2);
        check.due("who", x.alone(1), 5);
        check.due("what 2", x.alone(2), -1);
        check.due("what -1", x.alone(-1), -1);
        x.act(10, 5, 1);
        check.due("with 5", x.alone(1), 37);
        x.act(22, 0, 0);
        check.due("without 0", x.alone(0), 3);
        check.due("who: 1 and 3 and 5", x.alone(1), 42);
        Check.tell(x, 3, "");
        check.due("all", x.alone(1), 62);
    }
}
