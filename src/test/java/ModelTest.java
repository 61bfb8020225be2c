import java.util.Random;

/** All promises: runs of calls drawn at will, each answer compared with the model's. */
public final class ModelTest {
    private static final int RUNS = 1500;
    private static final int CALLS = 512;
    private static final int LATE_EVERY = 25;

    private final Check check = new Check();
    private final Random random;
    private final GingerRents x = new GingerRents();
    private final Model m = new Model();
    private final int run;
    private final int temper;
    private int calls = 0;

    private ModelTest(int run) {
        this.run = run;
        random = new Random(run);
        temper = random.nextInt(3);
    }

    public static void main(String[] args) {
        Check all = new Check();
        int from = args.length > 0 ? Integer.parseInt(args[0]) : 0;
        int to = args.length > 1 ? Integer.parseInt(args[1]) : RUNS;
        for (int run = from; run < to; run++) {
            ModelTest test = new ModelTest(run);
            test.play();
            all.due("wrong answers of run " + run, test.check.wrong(), 0);
            if (all.wrong() > 3) {
                break;
            }
        }
        all.finish("ModelTest");
    }

    private int draw(int n) {
        return random.nextInt(n);
    }

    /** A number from least to most, now and then one beside them. */
    private int around(int least, int most) {
        switch (draw(30)) {
            case 0:
                return least - 1;
            case 1:
                return most + 1;
            case 2:
                return least;
            case 3:
                return most;
            case 4:
                return draw(20) == 0 ? random.nextInt() : least;
            default:
                return least + draw(most - least + 1);
        }
    }

    private int house() {
        int n = m.look(0);
        return draw(25) == 0 ? draw(14) - 1 : n == 0 ? 0 : draw(n);
    }

    private void due(String call, int got, int want) {
        calls++;
        check.due("run " + run + " call " + calls + " " + call, got, want);
    }

    private void due(String call, boolean got, boolean want) {
        due(call, got ? 1 : 0, want ? 1 : 0);
    }

    private void play() {
        int houses = 1 + draw(12);
        for (int i = 0; i < houses; i++) {
            int wall = temper == 0 ? draw(100) : draw(20);
            due("house", x.house(wall, i % 10, i % 7), m.house(wall, i % 10, i % 7));
        }
        if (run % LATE_EVERY == 0) {
            comeLate();
        }
        for (int k = 0; k < 4; k++) {
            text(k);
        }
        while (calls < CALLS - 220 && check.wrong() == 0) {
            switch (draw(4)) {
                case 0 -> change();
                case 1 -> ask();
                case 2 -> think();
                default -> tellThoughts();
            }
        }
        askAll();
    }

    /** The last quarters there are come, with all houses as they were. */
    private void comeLate() {
        tell(0, "rent 0;gnaws 0;melts 0;");
        for (int i = 0; i < 166; i++) {
            due("quarters 60", x.quarters(60), m.quarters(60));
        }
        int n = 1 + draw(39);
        due("quarters " + n, x.quarters(n), m.quarters(n));
    }

    /** As much as may be asked before the last call that the document promises anything about. */
    private void askAll() {
        for (int what = 0; what < 14; what++) {
            due("look " + what, x.look(what), m.look(what));
        }
        for (int h = 0; h < m.look(0); h++) {
            for (int what = 0; what <= 10 && calls < CALLS; what++) {
                due("of " + h + " " + what, x.of(h, what), m.of(h, what));
            }
        }
        for (int i = m.look(7) - 1; i >= 0; i--) {
            for (int what = 0; what < 4 && calls < CALLS; what++) {
                due("book " + i + " " + what, x.book(i, what), m.book(i, what));
            }
        }
    }

    private void change() {
        int a = draw(100);
        if (a < 25) {
            int n = temper == 2 ? around(1, 60) : draw(8) == 0 ? around(1, 60) : 1 + draw(3);
            due("quarters " + n, x.quarters(n), m.quarters(n));
        } else if (a < 55) {
            int[] kinds = {0, 1, 2, 3, 10, 11, 12, 13, 20, 21, 22};
            int what = draw(15) == 0 ? draw(26) - 1 : kinds[draw(kinds.length)];
            int who = house();
            int n = what == 21 ? house() : what < 4 && draw(3) == 0 ? m.of(who, what) : around(1, what < 4 ? 9 : 99);
            due("act " + what + " " + who + " " + n, x.act(what, who, n), m.act(what, who, n));
        } else if (a < 70) {
            due("undo", x.undo(), m.undo());
        } else if (a < 76) {
            boolean taken = draw(2) == 0;
            due("image " + taken, x.image(taken), m.image(taken));
        } else if (a < 82) {
            int what = around(0, 8);
            int who = house();
            int v = around(0, what < 4 ? 99 : 9);
            due("set " + what + " " + who + " " + v, x.set(what, who, v), m.set(what, who, v));
        } else if (a < 85) {
            int v = random.nextInt();
            due("state " + v, x.state(v), m.state(v));
        } else if (a < 88) {
            int wall = around(0, 99);
            int almonds = around(0, 9);
            int teeth = around(0, 9);
            due("house", x.house(wall, almonds, teeth), m.house(wall, almonds, teeth));
        } else if (a < 98) {
            text(draw(20) == 0 ? around(0, 3) : draw(4));
        } else {
            due("feed", x.feed(a, -a, a, 0, -1), m.feed(a, -a, a, 0, -1));
        }
    }

    private void text(int k) {
        String text = ModelTexts.any(random, k, m.look(0), m.look(5));
        if (draw(4) == 0) {
            text = ModelTexts.spoilt(random, text);
        }
        if (draw(10) > 0) {
            due("end", x.end(0), m.end(0));
        }
        tell(k, text);
    }

    private void tell(int k, String text) {
        for (int from = 0; from < text.length(); from += 20) {
            int[] v = new int[5];
            for (int i = 0; i < 20; i++) {
                v[i / 4] = v[i / 4] << 8 | (from + i < text.length() ? text.charAt(from + i) : 32);
            }
            due("feed", x.feed(v[0], v[1], v[2], v[3], v[4]), m.feed(v));
        }
        due("end", x.end(text.length()), m.end(text.length()));
        due("text " + k + " " + text, x.text(k), m.text(k));
        due("fault of " + text, x.fault(0), m.fault(0));
        due("place of " + text, x.fault(1), m.fault(1));
    }

    private void ask() {
        int a = draw(10);
        if (a < 5) {
            int who = house();
            int what = draw(36) - 1;
            due("of " + who + " " + what, x.of(who, what), m.of(who, what));
        } else if (a < 7) {
            int i = around(0, Math.max(1, m.look(7)));
            int what = around(0, 3);
            due("book " + i + " " + what, x.book(i, what), m.book(i, what));
        } else if (a < 9) {
            int what = around(0, 14);
            due("look " + what, x.look(what), m.look(what));
        } else {
            int what = around(0, 1);
            due("fault " + what, x.fault(what), m.fault(what));
        }
    }

    private void think() {
        int h = house();
        int g = house();
        int what = around(0, 1);
        switch (draw(18)) {
            case 0, 1 -> {
                int n = around(1, 60);
                int w = around(0, 3);
                due("goes " + n + " " + w, x.goes(n, w), m.goes(n, w));
            }
            case 2 -> due("stands " + h, x.stands(h), m.stands(h));
            case 3 -> due("hears " + h + " " + g, x.hears(h, g), m.hears(h, g));
            case 4 -> due("ants " + h + " " + g, x.ants(h, g), m.ants(h, g));
            case 5 -> {
                int v = draw(2) == 0 ? around(0, 800) : draw(200);
                due("heard " + h + " " + v, x.heard(h, v), m.heard(h, v));
            }
            case 6 -> {
                int k = around(1, 9);
                due("plate " + k + " " + what, x.plate(k, what), m.plate(k, what));
            }
            case 7 -> {
                int c = around(1, 60);
                due("pans " + c + " " + what, x.pans(c, what), m.pans(c, what));
            }
            case 8 -> {
                int d = around(1, draw(2) == 0 ? 9999 : 200);
                int r = around(0, draw(2) == 0 ? 50 : 5);
                int p = around(1, draw(2) == 0 ? 999 : 50);
                due("mortgage " + d + " " + r + " " + p + " " + what, x.mortgage(d, r, p, what), m.mortgage(d, r, p, what));
            }
            case 9 -> due("measures " + what, x.measures(what), m.measures(what));
            case 10 -> {
                int teeth = draw(2) == 0 ? 1 << draw(9) : around(0, 255);
                int wide = around(0, 9);
                due("whose " + teeth + " " + wide, x.whose(teeth, wide), m.whose(teeth, wide));
            }
            case 11 -> due("crumbs " + what, x.crumbs(what), m.crumbs(what));
            case 12 -> {
                int w = draw(3) == 0 ? what : around(10, 15);
                due("ovens " + w, x.ovens(w), m.ovens(w));
            }
            case 13 -> due("alone " + what, x.alone(what), m.alone(what));
            case 14 -> {
                int who = around(0, 11);
                due("line " + who + " " + what, x.line(who, what), m.line(who, what));
            }
            case 15 -> {
                int n = around(1, 20);
                due("window " + n, x.window(n), m.window(n));
            }
            case 16 -> due("council " + what, x.council(what), m.council(what));
            default -> {
                int high = around(1, 5);
                int far = around(1, 6);
                due("game " + high + " " + far, x.game(high, far), m.game(high, far));
            }
        }
    }

    private void tellThoughts() {
        int none = draw(30) == 0 ? -1 : 0;
        switch (draw(8)) {
            case 0 -> {
                int v = none < 0 ? none : around(0, 99);
                due("piece " + v, x.piece(v), m.piece(v));
            }
            case 1 -> {
                int v = none < 0 ? none : around(1, 30);
                due("dough " + v, x.dough(v), m.dough(v));
            }
            case 2 -> {
                int v = none < 0 ? none : around(1, draw(2) == 0 ? 60 : 9);
                due("mark " + v, x.mark(v), m.mark(v));
            }
            case 3 -> {
                int v = none < 0 ? none : around(0, 255);
                int w = around(0, 9);
                due("bite " + v + " " + w, x.bite(v, w), m.bite(v, w));
            }
            case 4 -> {
                int v = none < 0 ? none : around(0, 3);
                due("crumb " + v, x.crumb(v), m.crumb(v));
            }
            case 5 -> {
                int v = none < 0 ? none : around(1, draw(2) == 0 ? 30 : 4);
                int w = around(1, draw(2) == 0 ? 30 : 4);
                due("loaf " + v + " " + w, x.loaf(v, w), m.loaf(v, w));
            }
            case 6 -> {
                int v = none < 0 ? none : around(0, 11);
                int w = around(0, 11);
                due("heir " + v + " " + w, x.heir(v, w), m.heir(v, w));
            }
            default -> {
                int v = none < 0 ? none : around(0, 4095);
                int w = around(1, 9);
                due("member " + v + " " + w, x.member(v, w), m.member(v, w));
            }
        }
    }
}
