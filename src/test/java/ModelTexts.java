import java.util.Random;

/** Texts drawn at will: good ones mostly, and spoilt ones. */
final class ModelTexts {
    private static final String[] UNITS = {"wall", "sum", "almonds", "teeth", "hard", "icing", "lodgers", "door", "age", "rain", "frost", "quarter"};
    private static final String[] JUNK = {"", " ", "\n", ";", "(", ")", "not ", "and", "or ", "when", "/0", "/ 0", "12345", "1000", "99", "+", "-", "<",
        "=", ">", "*", "#", "\t", "X", "rent ", "in ", "house ", "next", "rain ", "wed 0;", "0", "10", "100", "((((((((", "not not not not not "};

    private static final int LATE = 9900;

    private ModelTexts() {
    }

    static String any(Random random, int k, int houses, int quarter) {
        int lines = random.nextInt(12) == 0 ? 14 + random.nextInt(5) : random.nextInt(6);
        StringBuilder text = new StringBuilder(k == 0 && quarter > LATE ? lateLaw(random) : "");
        for (int i = 0; i < lines; i++) {
            String line = line(random, k, houses, quarter);
            if (text.length() + line.length() <= 390) {
                text.append(line);
            }
        }
        return text.toString();
    }

    static String spoilt(Random random, String text) {
        StringBuilder spoilt = new StringBuilder(text);
        int at = random.nextInt(text.length() + 1);
        switch (random.nextInt(4)) {
            case 0:
                spoilt.setLength(at);
                break;
            case 1:
                if (at < text.length()) {
                    spoilt.deleteCharAt(at);
                }
                break;
            case 2:
                if (at < text.length()) {
                    spoilt.setCharAt(at, (char) random.nextInt(256));
                }
                break;
            default:
                spoilt.insert(at, JUNK[random.nextInt(JUNK.length)]);
                break;
        }
        spoilt.setLength(Math.min(400, spoilt.length()));
        return spoilt.toString();
    }

    private static String line(Random random, int k, int houses, int quarter) {
        String gap = random.nextInt(5) == 0 ? " " : "";
        switch (k) {
            case 0:
                return law(random) + gap + ";" + gap;
            case 1:
                return "in " + soon(random, quarter) + " " + sky(random) + gap + ";";
            case 2:
                return "in " + soon(random, quarter) + " " + office(random, houses) + gap + ";";
            default:
                int a = house(random, houses);
                int b = random.nextInt(30) == 0 ? a : (a + 1 + random.nextInt(Math.max(1, houses - 1))) % Math.max(1, houses);
                return "house " + a + " next " + b + gap + ";";
        }
    }

    private static int house(Random random, int houses) {
        return random.nextInt(60) == 0 ? houses : random.nextInt(Math.max(1, houses));
    }

    private static int soon(Random random, int quarter) {
        return random.nextInt(60) == 0 ? 1000 : Math.min(999, quarter + random.nextInt(random.nextBoolean() ? 3 : 40));
    }

    private static String sky(Random random) {
        switch (random.nextInt(4)) {
            case 0:
                return "frost";
            case 1:
                return "thaw";
            default:
                return "rain " + (random.nextInt(60) == 0 ? 10 : random.nextInt(10));
        }
    }

    private static String office(Random random, int houses) {
        int house = house(random, houses);
        int n = random.nextInt(60) == 0 ? random.nextInt(2) * 100 : 1 + random.nextInt(random.nextBoolean() ? 99 : 12);
        switch (random.nextInt(6)) {
            case 0:
            case 1:
                return "ice " + house + " " + n;
            case 2:
            case 3:
                return "bake " + house + " " + (random.nextInt(60) == 0 ? 4 : random.nextInt(4)) + " " + n;
            case 4:
                return "wed " + house;
            default:
                return "raze " + house;
        }
    }

    private static String law(Random random) {
        String when = random.nextInt(4) == 0 ? "" : " when " + condition(random, 3);
        switch (random.nextInt(3)) {
            case 0:
                return "rent " + (random.nextInt(3) == 0 ? "" + random.nextInt(12) : sum(random)) + when;
            case 1:
                return "gnaws " + (random.nextBoolean() ? "" + random.nextInt(1200) : sum(random) + "*" + random.nextInt(200)) + when;
            default:
                return "melts " + (random.nextInt(3) == 0 ? "" + random.nextInt(4) : sum(random)) + when;
        }
    }

    /** Laws that tell the last quarters apart from one another. */
    private static String lateLaw(Random random) {
        String counts = random.nextBoolean() ? "age" : "quarter";
        return "rent " + random.nextInt(4) + " when " + counts + "<=>".charAt(random.nextInt(3)) + (9999 - random.nextInt(8)) + ";";
    }

    private static String condition(Random random, int depth) {
        switch (random.nextInt(depth > 0 ? 8 : 3)) {
            case 3:
                return "not " + condition(random, depth - 1);
            case 4:
                return "(" + condition(random, depth - 1) + ")";
            case 5:
                return condition(random, depth - 1) + " and " + condition(random, depth - 1);
            case 6:
                return condition(random, depth - 1) + " or " + condition(random, depth - 1);
            case 7:
                return "not(" + condition(random, depth - 1) + " and " + condition(random, depth - 1) + ")";
            default:
                return sum(random) + "<=>".charAt(random.nextInt(3)) + sum(random);
        }
    }

    private static String sum(Random random) {
        StringBuilder sum = new StringBuilder(product(random));
        for (int i = random.nextInt(3); i > 0; i--) {
            sum.append(random.nextBoolean() ? "+" : "-").append(product(random));
        }
        return sum.toString();
    }

    private static String product(Random random) {
        StringBuilder product = new StringBuilder(unit(random));
        for (int i = random.nextInt(6); i > 3; i--) {
            product.append(random.nextBoolean() ? "*" + unit(random) : "/" + (1 + random.nextInt(9)));
        }
        return product.toString();
    }

    private static String unit(Random random) {
        int n = random.nextInt(12);
        return n == 0 ? "" + random.nextInt(10000) : n < 5 ? "" + random.nextInt(12) : UNITS[random.nextInt(UNITS.length)];
    }
}
