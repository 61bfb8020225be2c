import java.util.ArrayList;
import java.util.List;
import java.util.Set;
import java.util.function.ToIntFunction;
import java.util.regex.Matcher;
import java.util.regex.Pattern;

/** The four texts read once more, by a tree of functions and with faults thrown. */
final class ModelText {
    /** What is known of a house when the law is asked. */
    interface Asked {
        int value(String word);
    }

    static final class Fault extends RuntimeException {
        private static final long serialVersionUID = 1L;
        final int kind;
        final int place;

        Fault(int kind, int place) {
            this.kind = kind;
            this.place = place;
        }
    }

    static final class LawLine {
        String word;
        ToIntFunction<Asked> amount;
        ToIntFunction<Asked> when;
    }

    private static final Pattern TOKEN = Pattern.compile("[A-Za-z]+|[0-9]+|.", Pattern.DOTALL);
    private static final Set<String> LAW = Set.of("rent", "gnaws", "melts", "when", "or", "and", "not", "wall", "sum",
        "almonds", "teeth", "hard", "icing", "lodgers", "door", "age", "rain", "frost", "quarter");
    private static final Set<String> UNITS = Set.of("wall", "sum",
        "almonds", "teeth", "hard", "icing", "lodgers", "door", "age", "rain", "frost", "quarter");
    private static final Set<String> SKY = Set.of("in", "rain", "frost", "thaw");
    private static final Set<String> OFFICE = Set.of("in", "ice", "bake", "wed", "raze");
    private static final Set<String> NEXT = Set.of("house", "next");

    private final List<String> tokens = new ArrayList<>();
    private final List<Integer> places = new ArrayList<>();
    private final int houses;
    private int at = 0;

    final List<LawLine> law = new ArrayList<>();
    final List<String[]> rows = new ArrayList<>();

    ModelText(int k, String text, int houses) {
        this.houses = houses;
        Set<String> words = k == 0 ? LAW : k == 1 ? SKY : k == 2 ? OFFICE : NEXT;
        Matcher m = TOKEN.matcher(text);
        while (m.find()) {
            String t = m.group();
            if (t.equals(" ") || t.equals("\n")) {
                continue;
            }
            boolean good = t.matches("[A-Za-z]+") ? words.contains(t) : t.matches("[0-9]+") ? t.length() <= 4 : ";+-*/()<=>".contains(t);
            tokens.add(good ? t : "?");
            places.add(m.start());
        }
        tokens.add("$");
        places.add(text.length());
        int lines = 0;
        while (!is("$")) {
            String first = peek();
            if (k == 0 ? !List.of("rent", "gnaws", "melts").contains(first) : !first.equals(k == 3 ? "house" : "in")) {
                throw new Fault(1, place());
            }
            if (++lines > 16) {
                throw new Fault(3, place());
            }
            switch (k) {
                case 0 -> lawLine();
                case 1 -> skyLine();
                case 2 -> officeLine();
                default -> nextLine();
            }
            expect(";");
        }
    }

    private String peek() {
        return tokens.get(at);
    }

    private int place() {
        return places.get(at);
    }

    private boolean is(String t) {
        return peek().equals(t);
    }

    private boolean accept(String t) {
        if (is(t)) {
            at++;
            return true;
        }
        return false;
    }

    private void expect(String t) {
        if (!accept(t)) {
            throw new Fault(1, place());
        }
    }

    private int number(int least, int most) {
        if (!peek().matches("[0-9]+")) {
            throw new Fault(1, place());
        }
        int v = Integer.parseInt(peek());
        if (v < least || v > most) {
            throw new Fault(2, place());
        }
        at++;
        return v;
    }

    private void skyLine() {
        at++;
        int quarter = number(0, 999);
        if (accept("rain")) {
            rows.add(new String[] {"" + quarter, "rain", "" + number(0, 9)});
        } else if (is("frost") || is("thaw")) {
            rows.add(new String[] {"" + quarter, peek()});
            at++;
        } else {
            throw new Fault(1, place());
        }
    }

    private void officeLine() {
        at++;
        int quarter = number(0, 999);
        String what = peek();
        if (!List.of("ice", "bake", "wed", "raze").contains(what)) {
            throw new Fault(1, place());
        }
        at++;
        int house = number(0, houses - 1);
        int wall = what.equals("bake") ? number(0, 3) : 0;
        int n = what.equals("bake") || what.equals("ice") ? number(1, 99) : 0;
        rows.add(new String[] {"" + quarter, what, "" + house, "" + wall, "" + n});
    }

    private void nextLine() {
        at++;
        int a = number(0, houses - 1);
        expect("next");
        int where = place();
        int b = number(0, houses - 1);
        if (a == b) {
            throw new Fault(2, where);
        }
        rows.add(new String[] {"" + a, "" + b});
    }

    private void lawLine() {
        LawLine line = new LawLine();
        line.word = peek();
        at++;
        line.amount = sum();
        line.when = accept("when") ? any(0) : null;
        law.add(line);
    }

    private ToIntFunction<Asked> any(int open) {
        ToIntFunction<Asked> left = all(open);
        while (accept("or")) {
            ToIntFunction<Asked> a = left;
            ToIntFunction<Asked> b = all(open);
            left = x -> a.applyAsInt(x) != 0 || b.applyAsInt(x) != 0 ? 1 : 0;
        }
        return left;
    }

    private ToIntFunction<Asked> all(int open) {
        ToIntFunction<Asked> left = one(open);
        while (accept("and")) {
            ToIntFunction<Asked> a = left;
            ToIntFunction<Asked> b = one(open);
            left = x -> a.applyAsInt(x) != 0 && b.applyAsInt(x) != 0 ? 1 : 0;
        }
        return left;
    }

    private ToIntFunction<Asked> one(int open) {
        if ((is("not") || is("(")) && open == 8) {
            throw new Fault(3, place());
        }
        if (accept("not")) {
            ToIntFunction<Asked> a = one(open + 1);
            return x -> 1 - a.applyAsInt(x);
        }
        if (accept("(")) {
            ToIntFunction<Asked> a = any(open + 1);
            expect(")");
            return a;
        }
        ToIntFunction<Asked> a = sum();
        String sign = peek();
        if (!List.of("<", "=", ">").contains(sign)) {
            throw new Fault(1, place());
        }
        at++;
        ToIntFunction<Asked> b = sum();
        return x -> {
            int c = Integer.compare(a.applyAsInt(x), b.applyAsInt(x));
            return (sign.equals("<") ? c < 0 : sign.equals("=") ? c == 0 : c > 0) ? 1 : 0;
        };
    }

    private ToIntFunction<Asked> sum() {
        ToIntFunction<Asked> left = product();
        while (is("+") || is("-")) {
            int by = accept("+") ? 1 : -1;
            if (by < 0) {
                at++;
            }
            ToIntFunction<Asked> a = left;
            ToIntFunction<Asked> b = product();
            left = x -> a.applyAsInt(x) + by * b.applyAsInt(x);
        }
        return left;
    }

    private ToIntFunction<Asked> product() {
        ToIntFunction<Asked> left = unit();
        while (is("*") || is("/")) {
            ToIntFunction<Asked> a = left;
            if (accept("*")) {
                ToIntFunction<Asked> b = unit();
                left = x -> a.applyAsInt(x) * b.applyAsInt(x);
            } else {
                at++;
                int n = number(1, 9999);
                left = x -> a.applyAsInt(x) / n;
            }
        }
        return left;
    }

    private ToIntFunction<Asked> unit() {
        String t = peek();
        if (t.matches("[0-9]+")) {
            at++;
            int n = Integer.parseInt(t);
            return x -> n;
        }
        if (!UNITS.contains(t)) {
            throw new Fault(1, place());
        }
        at++;
        return x -> x.value(t);
    }
}
