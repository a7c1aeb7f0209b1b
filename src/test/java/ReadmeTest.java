import java.io.File;
import java.io.IOException;
import java.lang.reflect.Method;
import java.lang.reflect.Modifier;
import java.nio.file.Files;
import java.nio.file.Path;
import java.util.regex.Matcher;
import java.util.regex.Pattern;

/** README.md: its example answers as it says, and it names each call and each test. */
public final class ReadmeTest {
    private static final Check CHECK = new Check("ReadmeTest");
    private static final Pattern CALL = Pattern.compile("x\\.(\\w+)\\((.*)\\); +// (\\w+): .*");

    public static void main(String[] args) throws IOException, ReflectiveOperationException {
        String page = Files.readString(Path.of("README.md"));
        example(page);
        for (Method method : OddLetsIn.class.getDeclaredMethods()) {
            if (Modifier.isPublic(method.getModifiers())) {
                dueNamed(page, method.getName());
            }
        }
        for (String file : new File("src/test/java").list()) {
            if (file.endsWith("Test.java")) {
                dueNamed(page, file.replace(".java", ""));
            }
        }
        CHECK.end();
    }

    private static void dueNamed(String page, String name) {
        CHECK.due(name + " stands on the page", page.contains("`" + name + "`") ? 1 : 0, 1);
    }

    private static void example(String page) throws ReflectiveOperationException {
        OddLetsIn x = new OddLetsIn();
        int calls = 0;
        for (String line : page.split("\n")) {
            if (!line.startsWith("x.")) {
                continue;
            }
            Matcher call = CALL.matcher(line);
            CHECK.due("a call and its answer: " + line, call.matches() ? 1 : 0, 1);
            if (call.matches()) {
                CHECK.due(line, answer(x, call.group(1), call.group(2)), told(call.group(3)));
                calls++;
            }
        }
        CHECK.due("there is an example", calls > 0 ? 1 : 0, 1);
    }

    private static long answer(OddLetsIn x, String name, String arguments)
            throws ReflectiveOperationException {
        for (Method method : OddLetsIn.class.getMethods()) {
            if (method.getName().equals(name)) {
                return (int) method.invoke(x, values(method.getParameterTypes(), arguments));
            }
        }
        throw new NoSuchMethodException(name);
    }

    private static Object[] values(Class<?>[] types, String arguments) {
        String[] words = arguments.isEmpty() ? new String[0] : arguments.split(", ");
        Object[] values = new Object[words.length];
        for (int i = 0; i < words.length; i++) {
            if (types[i] == boolean.class) {
                values[i] = Boolean.valueOf(words[i]);
            } else if (types[i] == long.class) {
                values[i] = Long.decode(words[i].replace("L", ""));
            } else {
                values[i] = Integer.valueOf(words[i]);
            }
        }
        return values;
    }

    /** A number, or the name of a constant. */
    private static long told(String answer) throws ReflectiveOperationException {
        if (Character.isDigit(answer.charAt(0))) {
            return Long.parseLong(answer);
        }
        return OddLetsIn.class.getField(answer).getInt(null);
    }
}
