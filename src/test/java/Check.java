/** Counts answers that are not as due, and ends a test with them. */
final class Check {
    static final int LEAST = Integer.MIN_VALUE;
    static final int MOST = Integer.MAX_VALUE;

    private static final int TOLD_MOST = 40;

    private int asked = 0;
    private int wrong = 0;
    private String sentence = "";

    /** The document's sentence by which the answers that follow are due. */
    void says(String sentence) {
        this.sentence = "\"" + sentence + "\": ";
    }

    void due(String call, long got, long want) {
        count(call, got == want, "" + got, "" + want);
    }

    void due(String call, String got, String want) {
        count(call, got.equals(want), got, want);
    }

    private void count(String call, boolean isSo, String got, String want) {
        asked++;
        if (!isSo) {
            wrong++;
            if (wrong <= TOLD_MOST) {
                System.out.println(sentence + call + " answered " + got + ", due is " + want);
            }
        }
    }

    void due(String call, boolean got, boolean want) {
        due(call, got ? 1 : 0, want ? 1 : 0);
    }

    void holds(String what, boolean isSo) {
        due(what, isSo, true);
    }

    /** A line of the book. */
    void line(GingerRents x, int i, int what, int which, int much) {
        due("what line " + i + " is", x.book(i, 1), what);
        due("which line " + i + " tells of", x.book(i, 2), which);
        due("how much line " + i + " tells", x.book(i, 3), much);
    }

    int wrong() {
        return wrong;
    }

    void finish(String name) {
        System.out.println(name + ": " + (asked - wrong) + " answers as due, " + wrong + " not");
        if (wrong != 0) {
            System.exit(1);
        }
    }

    /** A borough in which nobody pays, gnaws or melts. */
    static GingerRents quiet(int houses, int wall) {
        GingerRents x = new GingerRents();
        for (int i = 0; i < houses; i++) {
            x.house(wall, 0, 0);
        }
        tell(x, 0, "rent 0;gnaws 0;melts 0;");
        return x;
    }

    /** Gives the four walls of a house. */
    static void walls(GingerRents x, int house, int a, int b, int c, int d) {
        x.set(0, house, a);
        x.set(1, house, b);
        x.set(2, house, c);
        x.set(3, house, d);
    }

    /** Puts a text on the tape, which is to be empty, and makes it text k. */
    static int tell(GingerRents x, int k, String text) {
        put(x, text);
        return x.text(k);
    }

    /** Puts a text on the tape, which is to be empty. */
    static void put(GingerRents x, String text) {
        for (int from = 0; from < text.length(); from += 20) {
            x.feed(four(text, from), four(text, from + 4), four(text, from + 8), four(text, from + 12), four(text, from + 16));
        }
        x.end(text.length());
    }

    private static int four(String text, int from) {
        int v = 0;
        for (int i = from; i < from + 4; i++) {
            v = v << 8 | (i < text.length() ? text.charAt(i) & 255 : 32);
        }
        return v;
    }
}
