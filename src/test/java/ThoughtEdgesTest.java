/** Term 4, quarters and ways in thought, and promises 13 to 17 and 31: each sentence of the document that names a boundary, alone. */
public final class ThoughtEdgesTest {
    private static final Check check = new Check();
    private static final int LEAST = Check.LEAST;
    private static final int MOST = Check.MOST;

    public static void main(String[] args) {
        nothingStays();
        ratsWithoutDraws();
        goesBounds();
        goesThen();
        goesOfNobody();
        goesAnotherWhat();
        goesBehindTheLastQuarter();
        standsNotNow();
        standsMoreThanTwoHundred();
        standsTheFirstTime();
        standsNoneSuch();
        stepCosts();
        dearestStepCheapest();
        hearsAlikeOrNot();
        heardBounds();
        heardNotItself();
        antsCheapest();
        antsAlikeOrNot();
        longestWay();
        aloneOfThoseThatStand();
        aloneTheLeastSet();
        aloneOfAll();
        aloneAnotherWhat();
        check.finish("ThoughtEdgesTest");
    }

    private static void nothingStays() {
        check.says("IN THOUGHT (nothing of it stays; no DRAWS");
        GingerRents x = new GingerRents();
        x.house(9, 0, 0);
        x.house(1, 0, 0);
        Check.tell(x, 0, "rent 2;gnaws 600;melts rain;");
        Check.tell(x, 1, "in 2 rain 1;in 3 frost;");
        Check.tell(x, 2, "in 2 wed 0;in 3 bake 1 0 9;");
        Check.tell(x, 3, "house 0 next 1;");
        x.state(77);
        x.quarters(1);
        String before = Digest.borough(x);
        for (int what = 0; what <= 3; what++) {
            x.goes(60, what);
        }
        x.stands(0);
        x.stands(1);
        x.hears(0, 1);
        x.heard(0, 800);
        x.ants(0, 1);
        x.alone(1);
        check.due("all as it was", Digest.borough(x), before);
    }

    private static void ratsWithoutDraws() {
        check.says("rats gnaw, if gnaws is 500 at least");
        int[] gnaws = {0, 1, 499, 500, 501, 1000};
        for (int g : gnaws) {
            GingerRents x = Check.quiet(1, 3);
            Check.tell(x, 0, "rent 0;melts 0;gnaws " + g + ";");
            check.due("stands by gnaws " + g, x.stands(0), g >= 500 ? 3 : -1);
            check.due("goes 2 by gnaws " + g, x.goes(2, 1), 1);
            check.due("goes 3 by gnaws " + g, x.goes(3, 1), g >= 500 ? 0 : 1);
        }
    }

    private static void goesBounds() {
        check.says("GOES for n (1 .. 60) QUARTERS");
        GingerRents x = Check.quiet(1, 99);
        Check.tell(x, 0, "rent 1;gnaws 0;melts 0;");
        for (int n : new int[] {LEAST, -60, -1, 0, 61, 9999, MOST}) {
            for (int what = 0; what <= 3; what++) {
                check.due("goes " + n + " what " + what, x.goes(n, what), -1);
            }
        }
        check.due("goes 1", x.goes(1, 0), 1);
        check.due("goes 2", x.goes(2, 0), 2);
        check.due("goes 59", x.goes(59, 0), 59);
        check.due("goes 60", x.goes(60, 0), 60);
    }

    private static void goesThen() {
        check.says("EATEN, how many stand, ICING of all, LODGERS of all then");
        GingerRents x = Check.quiet(3, 1);
        x.set(0, 2, 9);
        x.set(7, 2, 5);
        x.act(0, 2, 3);
        Check.tell(x, 3, "house 0 next 2;");
        Check.tell(x, 0, "rent 7 when quarter=0;rent 0;gnaws 0;melts 0;");
        // 0 and 1 fall and owe 3 each, 0 goes to 2, 1 to the street; 2 of 9 has 2 left.
        check.due("eaten, with what was before", x.goes(1, 0), 3 + 4 + 4 + 7);
        check.due("stand", x.goes(1, 1), 1);
        check.due("icing", x.goes(1, 2), 6);
        check.due("lodgers", x.goes(1, 3), 6);
        check.due("later on the same", x.goes(60, 2), 6);
    }

    private static void goesOfNobody() {
        check.says("GOES for n (1 .. 60) QUARTERS: EATEN, how many stand, ICING of all, LODGERS of all then.");
        GingerRents x = new GingerRents();
        for (int what = 0; what <= 3; what++) {
            check.due("goes 1 what " + what, x.goes(1, what), 0);
        }
        x.house(0, 0, 0);
        check.due("who has no wall", x.goes(1, 3), 0);
        check.due("is there yet", x.of(0, 7), 1);
    }

    private static void goesAnotherWhat() {
        check.says("NONE if one can't be, or another what.");
        GingerRents x = Check.quiet(1, 9);
        for (int what : new int[] {LEAST, -1, 4, 5, MOST}) {
            check.due("goes 1 what " + what, x.goes(1, what), -1);
        }
    }

    private static void goesBehindTheLastQuarter() {
        check.says("GOES what 0 EATEN, 1 how many stand, 2 ICING, 3 LODGERS.");
        GingerRents x = Check.quiet(1, 20);
        for (int i = 0; i < 166; i++) {
            x.quarters(60);
        }
        x.quarters(39);
        Check.tell(x, 0, "rent 1 when age=9999 and quarter=9999;rent 50;gnaws 0;melts 0;");
        check.due("eaten", x.goes(60, 0), 60);
        check.due("stands", x.goes(60, 1), 1);
        check.due("falls", x.stands(0), 80);
        check.due("no quarter goes by", x.quarters(1), -1);
        check.due("quarter", x.look(5), 9999);
    }

    private static void standsNotNow() {
        check.says("STANDS of a HOUSE: for how many QUARTERS yet (0: not now");
        GingerRents x = Check.quiet(2, 0);
        Check.tell(x, 2, "in 0 bake 0 0 9;");
        check.due("one that will be baked", x.stands(0), 0);
        check.due("one that won't", x.stands(1), 0);
        x.quarters(1);
        check.due("one that was", x.stands(0), -1);
    }

    private static void standsMoreThanTwoHundred() {
        check.says("NONE: more than 200)");
        int[] sum = {1, 2, 199, 200, 201, 396};
        int[] due = {1, 2, 199, 200, -1, -1};
        for (int i = 0; i < sum.length; i++) {
            GingerRents x = Check.quiet(1, 0);
            for (int w = 0; w < 4; w++) {
                x.set(w, 0, Math.max(0, Math.min(99, sum[i] - 99 * w)));
            }
            Check.tell(x, 0, "rent 1;gnaws 0;melts 0;");
            check.due("stands of " + sum[i], x.stands(0), due[i]);
        }
        check.due("for ever", Check.quiet(1, 1).stands(0), -1);
    }

    private static void standsTheFirstTime() {
        check.says("for how many QUARTERS yet");
        GingerRents x = Check.quiet(1, 1);
        Check.tell(x, 2, "in 3 raze 0;in 5 bake 0 0 9;in 7 raze 0;");
        check.due("until it falls for the first time", x.stands(0), 4);
        Check.tell(x, 2, "in 3 raze 0;in 3 bake 0 0 9;in 7 raze 0;");
        check.due("razed and baked in one quarter", x.stands(0), 8);
    }

    private static void standsNoneSuch() {
        check.says("STANDS; NONE - 1 if there is none such.");
        check.due("of none at all", new GingerRents().stands(0), -2);
        GingerRents x = Check.quiet(2, 1);
        for (int h : new int[] {LEAST, -2, -1, 2, 11, 12, MOST}) {
            check.due("stands " + h, x.stands(h), -2);
        }
        check.due("one there is", x.stands(1), -1);
    }

    private static void stepCosts() {
        check.says("a step costs the sums (of WALLS) of both");
        GingerRents x = Check.quiet(3, 0);
        Check.walls(x, 0, 1, 2, 3, 4);
        Check.walls(x, 2, 99, 99, 99, 99);
        Check.tell(x, 3, "house 0 next 1;house 2 next 1;");
        check.due("10 and 0", x.hears(0, 1), 10);
        check.due("10 and 0 for ants", x.ants(1, 0), 10);
        check.due("0 and 396", x.hears(1, 2), 396);
        Check.walls(x, 1, 99, 99, 99, 99);
        check.due("the dearest there is", x.hears(1, 2), 792);
        Check.walls(x, 0, 0, 0, 0, 0);
        Check.walls(x, 1, 0, 0, 0, 0);
        check.due("the cheapest there is", x.hears(0, 1), 0);
        check.due("the cheapest for ants", x.ants(0, 1), 0);
    }

    private static void dearestStepCheapest() {
        check.says("the way whose dearest step is cheapest: that step");
        GingerRents x = Check.quiet(5, 0);
        int[] sum = {10, 50, 20, 25, 10};
        for (int h = 0; h < 5; h++) {
            x.set(h % 4, h, sum[h]);
        }
        // 0-1-4 has steps of 60 and 60; 0-2-3-4 has 30, 45 and 35.
        Check.tell(x, 3, "house 1 next 0;house 4 next 1;house 3 next 2;house 2 next 0;house 4 next 3;");
        check.due("the longer way", x.hears(0, 4), 45);
        check.due("back", x.hears(4, 0), 45);
        x.set(1, 1, 35);
        check.due("as cheap", x.hears(0, 4), 45);
        x.set(1, 1, 34);
        check.due("the shorter way", x.hears(0, 4), 44);
    }

    private static void hearsAlikeOrNot() {
        check.says("HEARS (alike: 0); NONE if not, or one can't be.");
        GingerRents x = Check.quiet(3, 5);
        Check.tell(x, 3, "house 0 next 1;");
        check.due("alike", x.hears(0, 0), 0);
        check.due("alike, next to nobody", x.hears(2, 2), 0);
        check.due("not", x.hears(0, 2), -1);
        check.due("not back", x.hears(2, 0), -1);
        for (int h : new int[] {LEAST, -1, 3, 12, MOST}) {
            check.due("to " + h, x.hears(0, h), -1);
            check.due("from " + h, x.hears(h, 0), -1);
            check.due("alike " + h, x.hears(h, h), -1);
        }
    }

    private static void heardBounds() {
        check.says("how many HOUSES are heard with no step above v (0 .. 800; not itself)");
        GingerRents x = Check.quiet(4, 0);
        x.set(0, 1, 5);
        x.set(0, 3, 6);
        // 0-1 costs 5, 1-2 costs 5, 2-3 costs 6.
        Check.tell(x, 3, "house 0 next 1;house 1 next 2;house 2 next 3;");
        int[] v = {0, 4, 5, 6, 799, 800};
        int[] due = {0, 0, 2, 3, 3, 3};
        for (int i = 0; i < v.length; i++) {
            check.due("heard " + v[i], x.heard(0, v[i]), due[i]);
        }
        for (int w : new int[] {LEAST, -1, 801, MOST}) {
            check.due("heard " + w, x.heard(0, w), -1);
        }
        GingerRents y = Check.quiet(2, 99);
        Check.tell(y, 3, "house 0 next 1;");
        check.due("791", y.heard(0, 791), 0);
        check.due("792", y.heard(0, 792), 1);
    }

    private static void heardNotItself() {
        check.says("How many are heard; NONE if one can't be.");
        GingerRents x = Check.quiet(3, 0);
        Check.tell(x, 3, "house 0 next 1;house 1 next 0;");
        check.due("one for nothing, not itself", x.heard(0, 0), 1);
        check.due("house 0 is heard, too", x.heard(1, 0), 1);
        check.due("nobody", x.heard(2, 800), 0);
        for (int h : new int[] {LEAST, -1, 3, 12, MOST}) {
            check.due("from " + h, x.heard(h, 0), -1);
        }
        check.due("of none at all", new GingerRents().heard(0, 0), -1);
    }

    private static void antsCheapest() {
        check.says("ANTS: the way whose steps together are cheapest: that.");
        GingerRents x = Check.quiet(4, 0);
        int[] sum = {1, 9, 4, 1};
        for (int h = 0; h < 4; h++) {
            x.set(0, h, sum[h]);
        }
        // 0-1-3 costs 10 and 10, 0-2-3 costs 5 and 5; straight on costs 2.
        Check.tell(x, 3, "house 0 next 1;house 1 next 3;house 0 next 2;house 2 next 3;");
        check.due("the cheaper way", x.ants(0, 3), 10);
        x.set(0, 2, 9);
        check.due("as cheap", x.ants(0, 3), 20);
        x.set(0, 2, 10);
        check.due("the other way", x.ants(0, 3), 20);
        Check.tell(x, 3, "house 0 next 1;house 1 next 3;house 0 next 3;");
        check.due("straight on", x.ants(3, 0), 2);
    }

    private static void antsAlikeOrNot() {
        check.says("ANTS (alike: 0); NONE if not, or one can't be.");
        GingerRents x = Check.quiet(3, 5);
        Check.tell(x, 3, "house 0 next 1;");
        check.due("alike", x.ants(1, 1), 0);
        check.due("alike, next to nobody", x.ants(2, 2), 0);
        check.due("not", x.ants(0, 2), -1);
        check.due("not back", x.ants(2, 0), -1);
        for (int h : new int[] {LEAST, -1, 3, 12, MOST}) {
            check.due("to " + h, x.ants(0, h), -1);
            check.due("from " + h, x.ants(h, 0), -1);
            check.due("alike " + h, x.ants(h, h), -1);
        }
    }

    /** Twelve houses in a row, told from the far end on: the longest way there is. */
    private static void longestWay() {
        check.says("from NEXT to NEXT");
        GingerRents x = Check.quiet(12, 99);
        StringBuilder row = new StringBuilder();
        for (int h = 11; h > 0; h--) {
            row.append("house ").append(h).append(" next ").append(h - 1).append(';');
        }
        check.due("eleven lines", Check.tell(x, 3, row.toString()), 11);
        check.due("ants", x.ants(0, 11), 11 * 792);
        check.due("ants back", x.ants(11, 0), 11 * 792);
        check.due("hears", x.hears(0, 11), 792);
        check.due("heard", x.heard(0, 792), 11);
        check.due("heard in the middle", x.heard(5, 791), 0);
        check.due("alone", x.alone(0), 6);
        // Every second one: of several sets the one of the least number.
        check.due("who", x.alone(1), 0x555);
    }

    private static void aloneOfThoseThatStand() {
        check.says("ALONE: the most HOUSES that stand none of which are NEXT: how many");
        GingerRents x = Check.quiet(3, 1);
        Check.tell(x, 3, "house 0 next 1;house 1 next 2;");
        check.due("two", x.alone(0), 2);
        check.due("0 and 2", x.alone(1), 5);
        x.act(22, 0, 0);
        check.due("one", x.alone(0), 1);
        check.due("1, the least of two", x.alone(1), 2);
        x.act(22, 1, 0);
        check.due("2", x.alone(1), 4);
        x.act(22, 2, 0);
        check.due("none", x.alone(0), 0);
        check.due("no one", x.alone(1), 0);
    }

    private static void aloneTheLeastSet() {
        check.says("the set (of several the least)");
        GingerRents x = Check.quiet(4, 1);
        // A ring: 0 and 2 (5), or 1 and 3 (10).
        Check.tell(x, 3, "house 3 next 0;house 0 next 1;house 1 next 2;house 2 next 3;");
        check.due("of a ring", x.alone(1), 5);
        // 0-1 and 2-3: 5, 6, 9, 10.
        Check.tell(x, 3, "house 0 next 1;house 2 next 3;");
        check.due("of two pairs", x.alone(1), 5);
        // 3 is next to none: 8 and one of 0, 1, 2.
        Check.tell(x, 3, "house 0 next 1;house 1 next 2;house 2 next 0;");
        check.due("of three and one", x.alone(1), 9);
    }

    private static void aloneOfAll() {
        check.says("none of which are NEXT");
        GingerRents x = Check.quiet(12, 1);
        check.due("all twelve", x.alone(0), 12);
        check.due("the set of all", x.alone(1), 4095);
        check.due("of no house", new GingerRents().alone(0), 0);
        check.due("the empty set", new GingerRents().alone(1), 0);
        check.due("one of one", Check.quiet(1, 1).alone(0), 1);
        check.due("the set of one", Check.quiet(1, 1).alone(1), 1);
    }

    private static void aloneAnotherWhat() {
        check.says("ALONE what 0 how many, 1 the set. NONE for another what.");
        GingerRents x = Check.quiet(2, 1);
        for (int what : new int[] {LEAST, -1, 2, 3, MOST}) {
            check.due("alone " + what, x.alone(what), -1);
        }
    }
}
