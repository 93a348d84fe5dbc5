import java.io.IOException;
import java.lang.reflect.Method;
import java.lang.reflect.Modifier;
import java.nio.file.Files;
import java.nio.file.Path;
import java.util.List;
import java.util.Set;
import java.util.TreeSet;
import java.util.regex.Matcher;
import java.util.regex.Pattern;

/** What README.md says: the calls of its example, line by line, and the tests that it names. */
public final class ReadmeTest {
    private static final String FIRST_LINE = "LateJobAdmit machine = new LateJobAdmit();";
    private static final Pattern CALL = Pattern.compile("machine\\.(\\w+)\\(([^)]*)\\); +// (\\w+)(: .*)?");

    private static int wrong = 0;

    public static void main(String[] args) throws IOException, ReflectiveOperationException {
        String readme = Files.readString(Path.of("README.md"));
        runExample(exampleIn(readme));
        namesEachTest(readme);
        System.out.println(wrong == 0 ? "README.md is as due" : wrong + " faults in README.md");
        if (wrong != 0) {
            System.exit(1);
        }
    }

    private static List<String> exampleIn(String readme) {
        int start = readme.indexOf("```java\n") + "```java\n".length();
        int end = readme.indexOf("\n```", start);
        return readme.substring(start, end).lines().toList();
    }

    private static void runExample(List<String> lines) throws ReflectiveOperationException {
        complainIf(!lines.get(0).equals(FIRST_LINE), "the example does not start with a new object");
        LateJobAdmit machine = new LateJobAdmit();
        Set<String> called = new TreeSet<>();
        for (String line : lines.subList(1, lines.size())) {
            Matcher call = CALL.matcher(line);
            if (call.matches()) {
                called.add(call.group(1));
                String got = String.valueOf(answer(machine, call.group(1), call.group(2)));
                String want = String.valueOf(valueOf(call.group(3)));
                complainIf(!got.equals(want), line + " answered " + got + ", due is " + want);
            } else {
                complainIf(true, "not a call with its answer: " + line);
            }
        }
        for (Method method : LateJobAdmit.class.getDeclaredMethods()) {
            boolean isPublic = Modifier.isPublic(method.getModifiers());
            complainIf(isPublic && !called.contains(method.getName()), "not in the example: " + method.getName());
        }
    }

    private static Object answer(LateJobAdmit machine, String name, String arguments) throws ReflectiveOperationException {
        String[] words = arguments.isEmpty() ? new String[0] : arguments.split(", ");
        Object[] values = new Object[words.length];
        Class<?>[] types = new Class<?>[words.length];
        for (int k = 0; k < words.length; k++) {
            values[k] = valueOf(words[k]);
            types[k] = values[k] instanceof Boolean ? boolean.class : int.class;
        }
        return LateJobAdmit.class.getMethod(name, types).invoke(machine, values);
    }

    private static Object valueOf(String word) {
        return switch (word) {
            case "true" -> true;
            case "false" -> false;
            case "BAD" -> LateJobAdmit.BAD;
            case "FULL" -> LateJobAdmit.FULL;
            case "NONE" -> LateJobAdmit.NONE;
            default -> word.startsWith("0b") ? Integer.parseInt(word.substring(2), 2) : Integer.parseInt(word);
        };
    }

    private static void namesEachTest(String readme) throws IOException {
        try (var tests = Files.list(Path.of("src/test/java"))) {
            for (Path test : tests.sorted().toList()) {
                complainIf(!readme.contains("`" + test + "`"), "README.md does not name " + test);
            }
        }
    }

    private static void complainIf(boolean fault, String what) {
        if (fault) {
            wrong++;
            System.out.println(what);
        }
    }
}
