/** All that can be asked, in one text and without changing anything: two of them tell whether something changed. */
final class Digest {
    private static final int BOOK_LINES = 6;

    private Digest() {
    }

    /** The borough, its texts, the latest lines of the book, what can be undone. */
    static String borough(GingerRents x) {
        StringBuilder all = new StringBuilder("look");
        for (int what = 0; what <= 13; what++) {
            all.append(' ').append(x.look(what));
        }
        for (int h = 0; h < x.look(0); h++) {
            all.append(" | of ").append(h);
            for (int what = 0; what <= 12; what++) {
                all.append(' ').append(x.of(h, what));
            }
            for (int w = 0; w < 4; w++) {
                all.append(' ').append(x.of(h, 20 + w)).append(' ').append(x.of(h, 30 + w));
            }
        }
        int lines = x.look(7);
        for (int i = Math.max(0, lines - BOOK_LINES); i < lines; i++) {
            all.append(" | book ").append(i);
            for (int what = 0; what < 4; what++) {
                all.append(' ').append(x.book(i, what));
            }
        }
        return all.append(" | fault ").append(x.fault(0)).append(' ').append(x.fault(1)).toString();
    }

    /** What was told for thought, seen by what is thought of it. */
    static String thoughts(GingerRents x) {
        StringBuilder all = new StringBuilder("plate");
        for (int k = 1; k <= 9; k++) {
            all.append(' ').append(x.plate(k, 0)).append(' ').append(x.plate(k, 1));
        }
        all.append(" | pans ").append(x.pans(60, 0)).append(' ').append(x.pans(30, 0)).append(' ').append(x.pans(30, 1));
        all.append(" | measures ").append(x.measures(0)).append(' ').append(x.measures(1));
        all.append(" | whose ").append(x.whose(0, 0)).append(' ').append(x.whose(1, 1));
        all.append(" | crumbs ").append(x.crumbs(0)).append(' ').append(x.crumbs(1));
        all.append(" | ovens ").append(x.ovens(0));
        for (int i = 0; i < 6; i++) {
            all.append(' ').append(x.ovens(10 + i));
        }
        all.append(" | line");
        for (int who = 0; who < 12; who++) {
            all.append(' ').append(x.line(who, 0)).append(' ').append(x.line(who, 1));
        }
        return all.append(" | council ").append(x.council(0)).append(' ').append(x.council(1)).toString();
    }
}
