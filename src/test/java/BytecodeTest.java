import java.io.IOException;
import java.util.HashSet;
import java.util.List;
import java.util.Map;
import java.util.Set;
import java.util.TreeMap;
import java.util.TreeSet;

/** The rules of LANGUAGE.md that the compiled class shows: what it calls (4), throws (6), recursion (8), how deep calls go (11). */
public final class BytecodeTest {
    private static final Check check = new Check();
    private static final String OWN = "GingerRents";
    private static final int DEEPEST = 8;

    private static final List<String> LIBRARY = List.of(
        "java/lang/Object.<init>()V", "java/lang/String.length()I", "java/lang/String.charAt(I)C", "java/lang/String.isEmpty()Z",
        "java/lang/String.indexOf(I)I", "java/lang/System.arraycopy(Ljava/lang/Object;ILjava/lang/Object;II)V",
        "java/lang/Math.min(II)I", "java/lang/Math.max(II)I", "java/lang/Math.abs(I)I", "java/lang/Math.min(JJ)J",
        "java/lang/Math.max(JJ)J", "java/lang/Math.abs(J)J", "java/lang/Math.floorDiv(II)I", "java/lang/Math.floorMod(II)I",
        "java/lang/Integer.bitCount(I)I", "java/lang/Long.bitCount(J)I");

    /** Methods that come back to themselves, each with what ends it. */
    private static final Map<String, String> RECURSION = Map.of(
        "condition", "clause refuses the ninth that is open",
        "clause", "clause refuses the ninth that is open",
        "leastShare", "k is one less, 9 at most",
        "fewestFrom", "i is one more, 8 at most",
        "doneBy", "used has one more of 6");

    private static final Map<String, Set<String>> calls = new TreeMap<>();
    private static final Map<String, Set<String>> ownCalls = new TreeMap<>();

    public static void main(String[] args) throws IOException {
        gather(GingerRents.class);
        for (Class<?> c : GingerRents.class.getDeclaredClasses()) {
            gather(c);
        }
        for (Map.Entry<String, Set<String>> method : calls.entrySet()) {
            Set<String> own = new TreeSet<>(method.getValue());
            own.retainAll(calls.keySet());
            ownCalls.put(method.getKey(), own);
        }
        libraryAlone();
        recursion();
        for (String method : calls.keySet()) {
            int depth = depth(method, new HashSet<>());
            check.holds("calls go " + DEEPEST + " deep at most from " + method + ": " + depth, depth <= DEEPEST);
        }
        check.holds("something is called", calls.size() > 100);
        check.finish("BytecodeTest");
    }

    private static void gather(Class<?> c) throws IOException {
        ClassCode code = ClassCode.of(c);
        calls.putAll(code.calls);
        check.due(c.getName() + " does what it may not", code.strange.toString(), "[]");
        for (String made : code.made) {
            check.holds(c.getName() + " makes " + made + ", its own", made.startsWith(OWN));
        }
    }

    private static void libraryAlone() {
        for (Map.Entry<String, Set<String>> method : calls.entrySet()) {
            for (String called : method.getValue()) {
                boolean isOwn = calls.containsKey(called);
                check.holds(method.getKey() + " may call " + called, isOwn || LIBRARY.contains(called));
            }
        }
    }

    private static void recursion() {
        for (String method : calls.keySet()) {
            boolean comesBack = reached(method).contains(method);
            String plain = method.substring(method.indexOf('.') + 1, method.indexOf('('));
            check.due(method + " comes back to itself", comesBack, RECURSION.containsKey(plain));
        }
    }

    private static Set<String> reached(String from) {
        Set<String> found = new TreeSet<>();
        for (String called : ownCalls.get(from)) {
            reach(called, found);
        }
        return found;
    }

    private static void reach(String method, Set<String> found) {
        if (found.add(method)) {
            for (String called : ownCalls.get(method)) {
                reach(called, found);
            }
        }
    }

    /** How many methods stand open at once, this one counted, if none of them comes back to itself. */
    private static int depth(String method, Set<String> open) {
        int deepest = 0;
        open.add(method);
        for (String called : ownCalls.get(method)) {
            if (!open.contains(called)) {
                deepest = Math.max(deepest, depth(called, open));
            }
        }
        open.remove(method);
        return deepest + 1;
    }
}
