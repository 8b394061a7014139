import java.lang.reflect.Constructor;
import java.lang.reflect.Field;
import java.lang.reflect.Method;
import java.lang.reflect.Modifier;
import java.nio.file.Files;
import java.nio.file.Path;
import java.util.Set;
import java.util.TreeSet;
import java.util.regex.Pattern;

/** The public face, and the rules of LANGUAGE.md that can be read from the class and its text. */
public final class FaceTest {
    private static final Checks checks = new Checks();

    private static final String[] METHODS = {
        "addNode/2", "setNode/2", "setReplication/1", "setSizes/2", "setLoads/2", "setSpeed/1", "put/2",
        "remove/1", "access/1", "splitAt/1", "sizeOf/1", "tick/0", "settle/1", "performed/1", "time/0",
        "rangeCount/0", "start/1", "size/1", "load/1", "rangeOf/1", "voters/1", "leader/1", "learner/1",
        "isAvailable/1", "splitKey/2", "replicas/1", "leaders/1", "undo/0", "errorCount/1", "digest/0"
    };
    private static final String[] CONSTANTS = {
        "NONE=-1", "INVALID=-2", "REJECTED=-3", "FULL=-4", "CREATE=1", "REPAIR=2", "SPREAD=3",
        "SPLIT_SIZE=4", "SPLIT_LOAD=5", "MERGE=6", "SHIFT_LEADER=7", "SHIFT_REPLICA=8"
    };
    private static final String[] FORBIDDEN = {
        "\\bthrow\\b", "\\btry\\b", "\\bcatch\\b", "\\bsynchronized\\b", "\\bassert\\b", "\\bimport\\b",
        "\\bpackage\\b", "->", "::", "Exact\\(", "\\bSystem\\.(?!arraycopy)", "\\bThread\\b", "\\bRandom\\b"
    };

    private static final Pattern METHOD_BEGINS = Pattern.compile("( {4}){1,2}[^ ].*\\) \\{");
    private static final Pattern METHOD_ENDS = Pattern.compile("( {4}){1,2}\\}");

    public static void main(String[] args) throws Exception {
        Class<RangeScheduler> face = RangeScheduler.class;
        checks.isTrue("the class is public and final",
                Modifier.isPublic(face.getModifiers()) && Modifier.isFinal(face.getModifiers()));
        methods(face);
        constants(face);
        Constructor<?>[] constructors = face.getDeclaredConstructors();
        checks.isTrue("one public constructor without arguments", constructors.length == 1
                && Modifier.isPublic(constructors[0].getModifiers()) && constructors[0].getParameterCount() == 0);
        for (Class<?> inside : face.getDeclaredClasses()) {
            checks.isTrue(inside + " is static and not public", Modifier.isStatic(inside.getModifiers())
                    && !Modifier.isPublic(inside.getModifiers()) && !Modifier.isProtected(inside.getModifiers()));
        }
        text();
        sizes(face);
        checks.end();
    }

    private static void methods(Class<?> face) {
        Set<String> found = new TreeSet<>();
        Set<String> names = new TreeSet<>();
        for (Method method : face.getDeclaredMethods()) {
            if (Modifier.isPrivate(method.getModifiers())) {
                continue;
            }
            found.add(method.getName() + "/" + method.getParameterCount());
            names.add(method.getName());
            Class<?> answer = method.getName().equals("digest") ? long.class : int.class;
            checks.isTrue(method + " answers " + answer, method.getReturnType() == answer);
            checks.isTrue(method + " is public and of the object",
                    Modifier.isPublic(method.getModifiers()) && !Modifier.isStatic(method.getModifiers()));
            for (Class<?> parameter : method.getParameterTypes()) {
                checks.isTrue(method + " takes ints", parameter == int.class);
            }
        }
        checks.isTrue("the methods are those of the document: " + found, found.equals(Set.of(METHODS)));
        for (Class<?> inside : face.getDeclaredClasses()) {
            for (Method method : inside.getDeclaredMethods()) {
                checks.isTrue(method + " has a name of its own", !names.contains(method.getName()));
            }
        }
        for (Method method : face.getDeclaredMethods()) {
            checks.isTrue(method + " has a name of its own",
                    !Modifier.isPrivate(method.getModifiers()) || !names.contains(method.getName()));
        }
    }

    private static void constants(Class<?> face) throws IllegalAccessException {
        Set<String> found = new TreeSet<>();
        for (Field field : face.getDeclaredFields()) {
            boolean shared = Modifier.isStatic(field.getModifiers());
            checks.isTrue(field + " is final if it is static", !shared || Modifier.isFinal(field.getModifiers()));
            if (!Modifier.isPrivate(field.getModifiers())) {
                checks.isTrue(field + " is a public constant", shared && Modifier.isPublic(field.getModifiers())
                        && field.getType() == int.class);
                found.add(field.getName() + "=" + field.getInt(null));
            }
        }
        checks.isTrue("the constants are those of the document: " + found, found.equals(Set.of(CONSTANTS)));
    }

    private static void text() throws java.io.IOException {
        String text = Files.readString(Path.of("src/main/java/RangeScheduler.java"));
        String code = text.replaceAll("(?s)/\\*.*?\\*/", " ").replaceAll("//[^\n]*", " ");
        for (String pattern : FORBIDDEN) {
            checks.isTrue("the program is without " + pattern,
                    !Pattern.compile(pattern).matcher(code).find());
        }
    }

    /** Rule 11: few parameters, few classes and fields, short methods. */
    private static void sizes(Class<?> face) throws java.io.IOException {
        Class<?>[] inside = face.getDeclaredClasses();
        checks.isTrue("at most 12 classes: " + (inside.length + 1), inside.length + 1 <= 12);
        sizesOf(face);
        for (Class<?> one : inside) {
            sizesOf(one);
        }
        int begin = 0;
        int line = 0;
        for (String text : Files.readAllLines(Path.of("src/main/java/RangeScheduler.java"))) {
            line++;
            if (METHOD_BEGINS.matcher(text).matches()) {
                begin = line;
            } else if (METHOD_ENDS.matcher(text).matches()) {
                checks.isTrue("line " + begin + " begins a short method", line - begin < 60);
            }
        }
        checks.isTrue("the methods are found by their indentation", begin > 0);
    }

    private static void sizesOf(Class<?> one) {
        int fields = 0;
        for (Field field : one.getDeclaredFields()) {
            if (!Modifier.isStatic(field.getModifiers())) {
                fields++;
            }
        }
        checks.isTrue(one + " has at most 20 fields: " + fields, fields <= 20);
        for (Method method : one.getDeclaredMethods()) {
            checks.isTrue(method + " takes at most 7 parameters", method.getParameterCount() <= 7);
        }
    }
}
