import java.lang.reflect.Method;
import java.lang.reflect.Modifier;
import java.nio.file.Files;
import java.nio.file.Path;
import java.util.regex.Matcher;
import java.util.regex.Pattern;

/** README.md: its example answers what it says, and every call and constant of the face is told. */
public final class ReadmeTest {
    private static final Pattern CALL = Pattern.compile("cluster\\.(\\w+)\\(([^)]*)\\);\\s*// (-?\\d+)\\b.*");
    private static final String[] CODES = {"NONE", "INVALID", "REJECTED", "FULL"};
    private static final Checks checks = new Checks();

    public static void main(String[] args) throws Exception {
        String text = Files.readString(Path.of("README.md"));
        example(text);
        for (Method method : RangeScheduler.class.getDeclaredMethods()) {
            checks.isTrue("README.md tells " + method.getName(),
                    !Modifier.isPublic(method.getModifiers()) || text.contains("`" + method.getName() + "`"));
        }
        for (String code : CODES) {
            checks.isTrue("README.md tells " + code, text.contains("`" + code + "`"));
        }
        checks.end();
    }

    private static void example(String text) throws ReflectiveOperationException {
        RangeScheduler cluster = new RangeScheduler();
        int made = 0;
        for (String line : text.split("\n")) {
            Matcher call = CALL.matcher(line);
            if (call.matches()) {
                made++;
                checks.due("README.md: " + line, answer(cluster, call.group(1), call.group(2)),
                        Long.parseLong(call.group(3)));
            } else {
                checks.isTrue("README.md gives an answer in: " + line, !line.startsWith("cluster."));
            }
        }
        checks.isTrue("the example of README.md has calls", made > 0);
    }

    private static long answer(RangeScheduler cluster, String name, String list)
            throws ReflectiveOperationException {
        String[] words = list.isBlank() ? new String[0] : list.split(",");
        Class<?>[] types = new Class<?>[words.length];
        Object[] values = new Object[words.length];
        for (int i = 0; i < words.length; i++) {
            types[i] = int.class;
            values[i] = Integer.parseInt(words[i].trim());
        }
        Object answer = RangeScheduler.class.getMethod(name, types).invoke(cluster, values);
        return ((Number) answer).longValue();
    }
}
