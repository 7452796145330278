import java.io.IOException;
import java.lang.reflect.Method;
import java.lang.reflect.Modifier;
import java.nio.file.DirectoryStream;
import java.nio.file.Files;
import java.nio.file.Path;
import java.util.Set;
import java.util.TreeSet;
import java.util.regex.Matcher;
import java.util.regex.Pattern;

/** README.md: each call that it shows answers what stands behind it, no call of the face is left out, and no test. */
public final class ReadmeTest {
    private static final String NEW_OBJECT = "EvenFlow x = new EvenFlow();";
    private static final Pattern BLOCK = Pattern.compile("(?s)```java\n(.*?)```");
    private static final Pattern CALL = Pattern.compile("x\\.(\\w+)\\(([^)]*)\\); +// (-?\\d+)\\b.*");
    private static final Due due = new Due();

    public static void main(String[] args) throws Exception {
        String text = Files.readString(Path.of("README.md"));
        showsEachCall(callsOf(text));
        namesEachTest(text);
        due.end();
    }

    /** Makes the calls one behind the other; the names of those that were made. */
    private static Set<String> callsOf(String text) throws Exception {
        Set<String> made = new TreeSet<>();
        EvenFlow x = null;
        Matcher blocks = BLOCK.matcher(text);
        while (blocks.find()) {
            for (String line : blocks.group(1).split("\n")) {
                Matcher call = CALL.matcher(line);
                if (line.equals(NEW_OBJECT)) {
                    x = new EvenFlow();
                } else if (x == null || !call.matches()) {
                    due.holds(false, "README.md has a line that is no call with its answer: " + line);
                } else {
                    made.add(call.group(1));
                    long answer = answerOf(x, call.group(1), call.group(2));
                    due.holds(answer == Long.parseLong(call.group(3)), "README.md says: " + line.trim() + ", answered " + answer);
                }
            }
        }
        return made;
    }

    private static long answerOf(EvenFlow x, String name, String told) throws Exception {
        String[] words = told.isEmpty() ? new String[0] : told.split(", ");
        for (Method m : EvenFlow.class.getDeclaredMethods()) {
            if (m.getName().equals(name) && m.getParameterCount() == words.length) {
                Object[] values = new Object[words.length];
                for (int i = 0; i < words.length; i++) {
                    values[i] = valueOf(words[i], m.getParameterTypes()[i]);
                }
                return ((Number) m.invoke(x, values)).longValue();
            }
        }
        throw new IllegalStateException("README.md has a call that there is not: " + name + "(" + told + ")");
    }

    private static Object valueOf(String word, Class<?> type) {
        if (type == boolean.class) {
            return Boolean.valueOf(word);
        }
        return type == long.class ? (Object) Long.valueOf(word) : (Object) Integer.valueOf(word);
    }

    private static void showsEachCall(Set<String> made) {
        for (Method m : EvenFlow.class.getDeclaredMethods()) {
            if (Modifier.isPublic(m.getModifiers())) {
                due.holds(made.contains(m.getName()), "README.md does not show " + m.getName() + "()");
            }
        }
    }

    private static void namesEachTest(String text) throws IOException {
        try (DirectoryStream<Path> files = Files.newDirectoryStream(Path.of("src/test/java"), "*.java")) {
            for (Path file : files) {
                String name = file.getFileName().toString().replace(".java", "");
                due.holds(text.contains("`" + name + "`"), "README.md does not name " + name);
            }
        }
    }
}
