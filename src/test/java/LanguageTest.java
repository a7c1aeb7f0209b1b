import java.io.IOException;
import java.lang.reflect.Constructor;
import java.lang.reflect.Field;
import java.lang.reflect.Method;
import java.lang.reflect.Modifier;
import java.nio.file.Files;
import java.nio.file.Path;
import java.util.ArrayList;
import java.util.Arrays;
import java.util.HashSet;
import java.util.List;
import java.util.Set;
import java.util.regex.Pattern;

/** The face of the document, and those rules of LANGUAGE.md that can be read off the source. */
public final class LanguageTest {
    private static final Check CHECK = new Check("LanguageTest");
    private static final Path SOURCE = Path.of("src/main/java/OddLetsIn.java");
    private static final List<String> FACE = List.of(
            "int write(int, long)", "int wipe()", "int fault()", "int lay()", "int gate(int, int)",
            "int where(int)", "int can(int, int)", "int pass(int, int)", "int linger(int, int)",
            "int undo()", "int way(int, boolean, int)", "int smallest(int)", "int mend(int, int)",
            "int seen(int, boolean)", "int forget()", "int wrong()", "int path(int)",
            "int noPath()", "int guests(int, int)", "int odds(int, int, int, int)",
            "int day(int, int, int)", "int keep()", "int back()", "int count(int)");
    private static final Set<String> CONSTANTS = Set.of("BAD", "NO", "FULL", "NONE");
    private static final List<String> FORBIDDEN = List.of("throw", "throws", "try", "catch",
            "synchronized", "assert", "System\\.(?!arraycopy)", "Thread", "->", "::", "@\\w+",
            "package", "Long\\.BYTES", "\\w+Exact", "equals", "hashCode", "toString");
    private static final int LONGEST_METHOD = 60;

    public static void main(String[] args) throws IOException {
        face();
        List<Class<?>> classes = new ArrayList<>(List.of(OddLetsIn.class.getDeclaredClasses()));
        classes.add(OddLetsIn.class);
        CHECK.due("at most twelve classes", classes.size() <= 12 ? 1 : 0, 1);
        classes.forEach(LanguageTest::shape);
        words();
        CHECK.end();
    }

    private static void face() {
        Set<String> found = new HashSet<>();
        for (Method method : OddLetsIn.class.getDeclaredMethods()) {
            if (Modifier.isPublic(method.getModifiers())) {
                List<String> types = new ArrayList<>();
                for (Class<?> type : method.getParameterTypes()) {
                    types.add(type.getName());
                }
                found.add(method.getReturnType() + " " + method.getName() + "("
                        + String.join(", ", types) + ")");
            } else {
                dueTrue("private: " + method, Modifier.isPrivate(method.getModifiers()));
            }
        }
        dueTrue("the methods of the face", found.equals(new HashSet<>(FACE)));
        for (Field field : OddLetsIn.class.getDeclaredFields()) {
            boolean isPublic = Modifier.isPublic(field.getModifiers());
            dueTrue("public or private as it must be: " + field,
                    isPublic == CONSTANTS.contains(field.getName())
                    && (isPublic || Modifier.isPrivate(field.getModifiers())));
        }
        Constructor<?>[] constructors = OddLetsIn.class.getConstructors();
        dueTrue("one constructor", constructors.length == 1
                && constructors[0].getParameterCount() == 0);
        dueTrue("final", Modifier.isFinal(OddLetsIn.class.getModifiers()));
    }

    private static void shape(Class<?> type) {
        int fields = 0;
        for (Field field : type.getDeclaredFields()) {
            boolean isStatic = Modifier.isStatic(field.getModifiers());
            fields += isStatic ? 0 : 1;
            dueTrue("no static state: " + field,
                    !isStatic || Modifier.isFinal(field.getModifiers()));
        }
        dueTrue("at most twenty fields: " + type, fields <= 20);
        dueTrue("static, if inside: " + type,
                type == OddLetsIn.class || Modifier.isStatic(type.getModifiers()));
        for (Method method : type.getDeclaredMethods()) {
            dueTrue("at most seven parameters: " + method, method.getParameterCount() <= 7);
            boolean named = FACE.stream().anyMatch(f -> f.contains(" " + method.getName() + "("));
            dueTrue("no name of the face: " + method,
                    !named || Modifier.isPublic(method.getModifiers()));
        }
    }

    private static void words() throws IOException {
        String source = Files.readString(SOURCE);
        String bare = source.replaceAll("(?s)/\\*.*?\\*/", "").replaceAll("//[^\n]*", "");
        for (String word : FORBIDDEN) {
            String whole = Character.isLetter(word.charAt(0)) ? "\\b(" + word + ")\\b" : word;
            if (word.startsWith("System")) {
                whole = "\\b" + word;
            }
            dueTrue("not in the source: " + word, !Pattern.compile(whole).matcher(bare).find());
        }
        int opened = 0;
        for (String line : bare.split("\n")) {
            boolean starts = line.matches(" +(public |private |static |final )*[\\w\\[\\]]+ \\w+\\(.*\\{");
            opened = starts ? 0 : opened + 1;
            boolean ends = line.matches(" {4}( {4})?\\}");
            dueTrue("short enough, up to: " + line, !ends || opened <= LONGEST_METHOD
                    || line.equals("    }"));
            dueTrue("imports: " + line,
                    !line.startsWith("import") || line.equals("import java.util.Arrays;"));
            dueTrue("made with the object alone: " + line, !line.contains("new ")
                    || line.matches(" +(private )?final \\S+ \\w+ = new .*;"));
        }
        dueTrue("signs 1 to 127", source.chars().allMatch(sign -> sign >= 1 && sign <= 127));
        dueTrue("no join by +", Arrays.stream(bare.split("\n")).noneMatch(l -> l.contains("\"")));
    }

    private static void dueTrue(String what, boolean is) {
        CHECK.due(what, is ? 1 : 0, 1);
    }
}
