import java.lang.reflect.Constructor;
import java.lang.reflect.Field;
import java.lang.reflect.Member;
import java.lang.reflect.Method;
import java.lang.reflect.Modifier;
import java.nio.file.Files;
import java.nio.file.Path;
import java.util.ArrayList;
import java.util.Arrays;
import java.util.List;
import java.util.Set;
import java.util.TreeSet;
import java.util.regex.Matcher;
import java.util.regex.Pattern;

/** The face that the document tells, and what of LANGUAGE.md can be seen from outside. */
public final class FaceTest {
    private static final String SOURCE = "src/main/java/EvenFlow.java";
    private static final Path DOCUMENT = Path.of("../shared/DOC.md");
    private static final String[] FACE = {
        "int part(int, long, int)", "int line(int, int, int, int)", "int count(int, boolean, int, int)", "int first(int, int)",
        "int thing(int, int, long)", "int row(int, int, long)", "int copy(int, int, int, int, int)", "int tear(int)",
        "int told(int, int)", "int is(int, int)", "int ends(int, int)", "int round()", "int firings(int)", "int uneven()",
        "int stuck()", "int lacks(int)", "int schedule(int)", "int least(int)", "int tries()", "int once()", "int bracket(int)",
        "int firing(int)", "int store(int)", "int marking(int, int)", "int draft(int)", "int check()", "int time(int, int)",
        "int beat(boolean)", "int may(int)", "int fire(int)", "long gave()", "int trace(int)", "int deal(int, int)", "int go(int)",
        "int reset()", "int things(int)", "int look(int, int)", "int given(int, int)", "long asked()", "int many(int)",
        "int finding()", "int findings(int)", "long digest()",
    };
    private static final String[] BANNED = {"throw", "throws", "try", "catch", "synchronized", "assert", "finally", "volatile", "var",
        "record", "System\\.out", "Integer\\.", "Long\\.", "\\w+Exact", "hashCode", "toString", "getClass", "random", "->", "::"};
    private static final Due due = new Due();

    public static void main(String[] args) throws Exception {
        face();
        faceOfDocument();
        members();
        classes();
        source();
        due.end();
    }

    private static String told(Method m) {
        List<String> types = new ArrayList<>();
        for (Class<?> t : m.getParameterTypes()) {
            types.add(t.getName());
        }
        return m.getReturnType().getName() + " " + m.getName() + "(" + String.join(", ", types) + ")";
    }

    private static void face() throws Exception {
        Set<String> open = new TreeSet<>();
        for (Method m : EvenFlow.class.getDeclaredMethods()) {
            if (Modifier.isPublic(m.getModifiers())) {
                due.holds(!Modifier.isStatic(m.getModifiers()), m + " is static");
                open.add(told(m));
            }
        }
        due.holds(open.equals(new TreeSet<>(Arrays.asList(FACE))), "the public methods are " + open);
        due.holds(EvenFlow.class.getDeclaredConstructors().length == 1, "more than one constructor");
        Constructor<?> made = EvenFlow.class.getDeclaredConstructor();
        due.holds(Modifier.isPublic(made.getModifiers()), "the constructor is not public");
        Set<String> constants = new TreeSet<>();
        for (Field f : EvenFlow.class.getDeclaredFields()) {
            if (Modifier.isPublic(f.getModifiers())) {
                constants.add(f.getName() + " " + f.getInt(null));
            }
        }
        Set<String> wanted = new TreeSet<>(Arrays.asList("BAD -1", "FULL -2", "FINDING -3", "STATE -4", "SPENT -6", "NONE -9"));
        due.holds(constants.equals(wanted), "the constants are " + constants);
        due.holds(Modifier.isFinal(EvenFlow.class.getModifiers()), "the class is not final");
    }

    /** The face as the document has it, if it is there: what this test takes for it has not gone another way. */
    private static void faceOfDocument() throws Exception {
        if (!Files.exists(DOCUMENT)) {
            return;
        }
        String text = Files.readString(DOCUMENT);
        text = text.substring(text.indexOf("## The public face"), text.indexOf("## Terms"));
        Set<String> calls = new TreeSet<>();
        Matcher m = Pattern.compile("public (int|long) (\\w+)\\(([^)]*)\\);").matcher(text);
        while (m.find()) {
            calls.add(m.group(1) + " " + m.group(2) + "(" + m.group(3).replaceAll("(int|long|boolean) \\w+", "$1") + ")");
        }
        due.holds(calls.equals(new TreeSet<>(Arrays.asList(FACE))), "the document's face is " + calls);
    }

    private static void members() {
        List<Member> all = new ArrayList<>(Arrays.asList(EvenFlow.class.getDeclaredMethods()));
        all.addAll(Arrays.asList(EvenFlow.class.getDeclaredFields()));
        for (Member m : all) {
            int how = m.getModifiers();
            due.holds(Modifier.isPublic(how) || Modifier.isPrivate(how) || m.isSynthetic(), m + " can be seen");
        }
    }

    private static void classes() {
        Set<String> names = new TreeSet<>();
        for (String call : FACE) {
            names.add(call.replaceAll("^\\w+ (\\w+)\\(.*", "$1"));
        }
        List<Class<?>> all = new ArrayList<>(Arrays.asList(EvenFlow.class.getDeclaredClasses()));
        due.holds(all.size() <= 11, "too many classes");
        for (Class<?> c : all) {
            due.holds(Modifier.isStatic(c.getModifiers()) && !Modifier.isPublic(c.getModifiers()), c + " is open, or not static");
            for (Method m : c.getDeclaredMethods()) {
                due.holds(!names.contains(m.getName()), m + " bears the name of a public one");
            }
        }
        all.add(EvenFlow.class);
        for (Class<?> c : all) {
            int own = 0;
            for (Field f : c.getDeclaredFields()) {
                if (Modifier.isStatic(f.getModifiers())) {
                    due.holds(Modifier.isFinal(f.getModifiers()), f + " is static and can change");
                } else {
                    own++;
                }
            }
            due.holds(own <= 20, c + " has " + own + " fields");
            for (Method m : c.getDeclaredMethods()) {
                due.holds(m.getParameterCount() <= 7, m + " has many parameters");
                due.holds(!Modifier.isPrivate(m.getModifiers()) || !names.contains(m.getName()), m + " bears the name of a public one");
            }
        }
    }

    private static void source() throws Exception {
        String text = Files.readString(Path.of(SOURCE));
        due.holds(text.chars().allMatch(c -> c < 128), "a sign above 127");
        due.holds(!text.contains("package ") && text.indexOf("import") == text.lastIndexOf("import"), "a package line, or imports");
        String code = text.replaceAll("(?s)/\\*.*?\\*/", "").replaceAll("//[^\n]*", "");
        for (String word : BANNED) {
            String edged = Character.isLetter(word.charAt(0)) || word.startsWith("\\w") ? "\\b" + word : word;
            Matcher m = Pattern.compile(edged + (word.matches("[a-z]+") ? "\\b" : "")).matcher(code);
            due.holds(!m.find(), "the source has " + word);
        }
        Matcher bodies = Pattern.compile("(?m)^( +)(?:public |private |static )*[\\w\\[\\]]+ \\w+\\([^)]*\\) \\{\n(?s:(.*?))\n\\1\\}").matcher(code);
        int methods = 0;
        while (bodies.find()) {
            methods++;
            due.holds(bodies.group(2).split("\n").length <= 60, "a long method: " + bodies.group().split("\n")[0].trim());
        }
        due.holds(methods > 100, "only " + methods + " methods were seen");
    }
}
