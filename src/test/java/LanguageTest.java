import java.io.IOException;
import java.lang.reflect.Constructor;
import java.lang.reflect.Field;
import java.lang.reflect.Method;
import java.lang.reflect.Modifier;
import java.nio.file.Files;
import java.nio.file.Path;
import java.util.List;
import java.util.Set;
import java.util.TreeSet;
import java.util.regex.Matcher;
import java.util.regex.Pattern;

/** The rules of LANGUAGE.md that can be seen without reading, and the document's face. */
public final class LanguageTest {
    private static final Check check = new Check();
    private static final List<String> FACE = List.of(
        "int state(int)", "int house(int,int,int)", "boolean set(int,int,int)", "boolean act(int,int,int)",
        "int quarters(int)", "int feed(int,int,int,int,int)", "boolean end(int)", "int text(int)", "int fault(int)",
        "int of(int,int)", "int book(int,int)", "int goes(int,int)", "int stands(int)", "int hears(int,int)",
        "int heard(int,int)", "int ants(int,int)", "int piece(int)", "int plate(int,int)", "int dough(int)",
        "int pans(int,int)", "int mortgage(int,int,int,int)", "int mark(int)", "int measures(int)",
        "int bite(int,int)", "int whose(int,int)", "int crumb(int)", "int crumbs(int)", "int loaf(int,int)",
        "int ovens(int)", "int alone(int)", "int heir(int,int)", "int line(int,int)", "int window(int)",
        "int member(int,int)", "int council(int)", "int game(int,int)", "boolean undo()", "boolean image(boolean)",
        "int look(int)");
    private static final List<String> FORBIDDEN = List.of("throw", "throws", "try", "catch", "finally", "synchronized", "assert",
        "import", "package", "protected", "native", "volatile", "transient", "float", "double", "Object", "System\\.out",
        "System\\.exit", "System\\.nanoTime", "System\\.currentTimeMillis", "Thread", "Random", "\\w+Exact");

    public static void main(String[] args) throws IOException {
        face();
        for (Class<?> c : GingerRents.class.getDeclaredClasses()) {
            nested(c);
        }
        check.holds("some twelve classes", GingerRents.class.getDeclaredClasses().length <= 12);
        source();
        check.finish("LanguageTest");
    }

    private static void face() {
        Class<?> c = GingerRents.class;
        check.holds("public and final", Modifier.isPublic(c.getModifiers()) && Modifier.isFinal(c.getModifiers()));
        Set<String> found = new TreeSet<>();
        for (Method m : c.getDeclaredMethods()) {
            if (Modifier.isPublic(m.getModifiers())) {
                StringBuilder sign = new StringBuilder(m.getReturnType() + " " + m.getName() + "(");
                for (int i = 0; i < m.getParameterCount(); i++) {
                    sign.append(i > 0 ? "," : "").append(m.getParameterTypes()[i]);
                }
                found.add(sign.append(")").toString());
            } else {
                check.holds(m + " is private", Modifier.isPrivate(m.getModifiers()));
            }
        }
        check.holds("the face is the document's: " + found, found.equals(new TreeSet<>(FACE)));
        for (Constructor<?> k : c.getDeclaredConstructors()) {
            check.holds(k + " is public, of nothing", Modifier.isPublic(k.getModifiers()) && k.getParameterCount() == 0);
        }
        for (Field f : c.getDeclaredFields()) {
            check.holds(f + " is private or NONE", Modifier.isPrivate(f.getModifiers()) || f.getName().equals("NONE"));
        }
        members(c);
    }

    private static void nested(Class<?> c) {
        check.holds(c + " is static", Modifier.isStatic(c.getModifiers()));
        check.holds(c + " is not public", !Modifier.isPublic(c.getModifiers()));
        check.due(c + " has no classes", c.getDeclaredClasses().length, 0);
        for (Method m : c.getDeclaredMethods()) {
            boolean isTaken = FACE.stream().anyMatch(f -> f.contains(" " + m.getName() + "("));
            check.holds(m + " has a name of its own", !isTaken);
        }
        members(c);
    }

    private static void members(Class<?> c) {
        int fields = 0;
        for (Field f : c.getDeclaredFields()) {
            if (Modifier.isStatic(f.getModifiers())) {
                check.holds(f + " is a constant", Modifier.isFinal(f.getModifiers()) && (f.getType().isPrimitive() || f.getType() == String.class));
            } else {
                fields++;
            }
        }
        check.holds(c + " has some twenty fields", fields <= 20);
        for (Method m : c.getDeclaredMethods()) {
            check.holds(m + " takes seven at most", m.getParameterCount() <= 7);
        }
    }

    private static void source() throws IOException {
        String text = Files.readString(Path.of("src/main/java/GingerRents.java"));
        check.holds("signs 1 to 127", text.chars().allMatch(ch -> ch > 0 && ch < 128));
        String bare = text.replaceAll("(?s)/\\*.*?\\*/", "").replaceAll("//[^\n]*", "").replaceAll("\"[^\"\n]*\"", "\"\"");
        for (String word : FORBIDDEN) {
            Matcher m = Pattern.compile("\\b" + word + "\\b").matcher(bare);
            check.holds("no " + word, !m.find());
        }
        check.holds("no lambda", !bare.contains("->") && !bare.contains("::"));
        int open = 0;
        int start = 0;
        int line = 0;
        for (String s : bare.split("\n", -1)) {
            line++;
            boolean isMethod = s.matches("\\s+[\\w ]*[\\w\\]] ?\\w*\\([^;=]*\\) \\{") && !s.matches("\\s+(\\} )?(if|for|while|switch|else).*");
            if (isMethod) {
                start = line;
                open = s.indexOf(s.trim());
            }
            if (start > 0 && s.equals(" ".repeat(open) + "}")) {
                check.holds("the method of line " + start + " is short", line - start < 60);
                start = 0;
            }
        }
    }
}
