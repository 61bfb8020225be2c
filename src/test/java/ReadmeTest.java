import java.io.IOException;
import java.lang.reflect.Method;
import java.lang.reflect.Modifier;
import java.nio.file.Files;
import java.nio.file.Path;
import java.util.Arrays;
import java.util.regex.Matcher;
import java.util.regex.Pattern;

/** README.md names every call, and the calls it makes answer what it says behind them. */
public final class ReadmeTest {
    private static final Check check = new Check();
    private static final Pattern CALL = Pattern.compile("(?m)^x\\.(\\w+)\\(([^)]*)\\);(.*)$");
    private static final Pattern ANSWER = Pattern.compile("\\s*// (-?\\d+|true|false)(:.*)?");

    public static void main(String[] args) throws ReflectiveOperationException, IOException {
        String page = Files.readString(Path.of("README.md"));
        for (Method m : GingerRents.class.getDeclaredMethods()) {
            if (Modifier.isPublic(m.getModifiers())) {
                int many = m.getParameterCount();
                String named = "`" + m.getName() + "\\(" + (many == 0 ? "" : "\\w+" + ", \\w+".repeat(many - 1)) + "\\)`";
                check.holds("README.md names " + named, Pattern.compile(named).matcher(page).find());
            }
        }
        GingerRents x = new GingerRents();
        Matcher call = CALL.matcher(page);
        int calls = 0;
        while (call.find()) {
            calls++;
            Matcher answer = ANSWER.matcher(call.group(3));
            check.holds("README.md says what " + call.group() + " answers", answer.matches());
            if (answer.matches()) {
                check.due(call.group(), String.valueOf(make(x, call.group(1), call.group(2))), answer.group(1));
            }
        }
        check.holds("README.md makes calls", calls > 20);
        check.finish("ReadmeTest");
    }

    private static Object make(GingerRents x, String name, String words) throws ReflectiveOperationException {
        String[] given = words.isEmpty() ? new String[0] : words.split(", ");
        Method called = Arrays.stream(GingerRents.class.getMethods())
            .filter(m -> m.getName().equals(name) && m.getParameterCount() == given.length).findFirst().orElseThrow();
        Object[] values = new Object[given.length];
        for (int i = 0; i < given.length; i++) {
            boolean isYesNo = called.getParameterTypes()[i] == boolean.class;
            values[i] = isYesNo ? (Object) Boolean.valueOf(given[i]) : (Object) Integer.valueOf(given[i]);
        }
        return called.invoke(x, values);
    }
}
