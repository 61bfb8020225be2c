import java.lang.reflect.InvocationTargetException;
import java.lang.reflect.Method;
import java.lang.reflect.Modifier;
import java.util.ArrayList;
import java.util.Comparator;
import java.util.List;
import java.util.Random;

/** No call throws, for any numbers in any state (rule 7 of LANGUAGE.md), and each answers at least NONE - 1 where it can't be. */
public final class WildTest {
    private static final int RUNS = 400;
    private static final int CALLS = 512;
    private static final int[] EDGES = {Check.LEAST, Check.LEAST + 1, -257, -2, -1, 0, 1, 2, 3, 7, 8, 9, 10, 11, 12, 13, 20, 21, 22, 23,
        30, 31, 32, 33, 34, 60, 61, 99, 100, 149, 150, 200, 255, 256, 400, 401, 800, 801, 999, 4095, 4096, 9999, 10000, 65535,
        Check.MOST - 20, Check.MOST - 1, Check.MOST};

    private static final Check check = new Check();

    public static void main(String[] args) throws IllegalAccessException {
        List<Method> face = new ArrayList<>();
        for (Method m : GingerRents.class.getDeclaredMethods()) {
            if (Modifier.isPublic(m.getModifiers())) {
                face.add(m);
            }
        }
        // The order of getDeclaredMethods is free, and runs are to be the same each time.
        face.sort(Comparator.comparing(Method::getName));
        for (int run = 0; run < RUNS; run++) {
            play(face, new Random(run), run);
        }
        check.finish("WildTest");
    }

    private static void play(List<Method> face, Random random, int run) throws IllegalAccessException {
        GingerRents x = new GingerRents();
        for (int i = 0; i < CALLS; i++) {
            if (i < run % 13) {
                x.house(random.nextInt(100), random.nextInt(10), random.nextInt(10));
                continue;
            }
            Method m = face.get(random.nextInt(face.size()));
            Object[] values = new Object[m.getParameterCount()];
            StringBuilder call = new StringBuilder("run " + run + " call " + i + ": " + m.getName());
            for (int p = 0; p < values.length; p++) {
                values[p] = m.getParameterTypes()[p] == boolean.class ? (Object) random.nextBoolean() : (Object) number(random, m);
                call.append(p == 0 ? "(" : ", ").append(values[p]);
            }
            try {
                Object answer = m.invoke(x, values);
                boolean isCount = answer instanceof Integer && !m.getName().equals("state") && !m.getName().equals("look");
                check.holds(call + " answers NONE - 1 at least", !isCount || (Integer) answer >= GingerRents.NONE - 1);
            } catch (InvocationTargetException e) {
                check.due(call.toString(), "threw " + e.getCause(), "an answer");
            }
        }
    }

    private static int number(Random random, Method m) {
        if (m.getName().equals("feed")) {
            return signs(random);
        }
        switch (random.nextInt(4)) {
            case 0:
                return EDGES[random.nextInt(EDGES.length)];
            case 1:
                return random.nextInt(12);
            case 2:
                return random.nextInt(60);
            default:
                return random.nextInt(8) == 0 ? random.nextInt() : random.nextInt(4);
        }
    }

    /** Four bytes, such as stand in texts more often than others. */
    private static int signs(Random random) {
        String known = " \n;+-*/()<=>0123456789abcdefghilmnorstuwxZ";
        int four = 0;
        for (int i = 0; i < 4; i++) {
            int sign = random.nextInt(12) == 0 ? random.nextInt(256) : known.charAt(random.nextInt(known.length()));
            four = four << 8 | sign;
        }
        return four;
    }
}
