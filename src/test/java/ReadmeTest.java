import java.io.IOException;
import java.lang.reflect.Method;
import java.lang.reflect.Modifier;
import java.nio.file.Files;
import java.nio.file.Path;
import java.util.List;
import java.util.Set;
import java.util.TreeSet;
import java.util.regex.Matcher;
import java.util.regex.Pattern;

/**
 * The calls of README.md's example are made in their order and must answer what stands behind
 * them, and each public method is in the example and in the table. The table's words are not
 * tested. Run from the project's folder.
 */
public final class ReadmeTest {
    private static final Pattern CALL = Pattern.compile("tree\\.(\\w+)\\(([^)]*)\\);(?: *// (-?\\d+)(?::.*)?)?");
    private static final Pattern ROW = Pattern.compile("\\| `(\\w+)\\(.*");

    private static int wrong = 0;

    private static void check(boolean holds, String fault) {
        if (!holds) {
            wrong++;
            System.out.println("README.md: " + fault);
        }
    }

    private static Method named(String name) {
        for (Method method : DeltaTree.class.getDeclaredMethods()) {
            if (Modifier.isPublic(method.getModifiers()) && method.getName().equals(name)) {
                return method;
            }
        }
        return null;
    }

    private static Object[] arguments(String told) {
        String[] words = told.isEmpty() ? new String[0] : told.split(", ");
        Object[] values = new Object[words.length];
        for (int i = 0; i < words.length; i++) {
            boolean truth = words[i].equals("true") || words[i].equals("false");
            values[i] = truth ? (Object) Boolean.valueOf(words[i]) : (Object) Integer.valueOf(words[i]);
        }
        return values;
    }

    private static void makeCall(DeltaTree tree, String line, Matcher call) throws ReflectiveOperationException {
        Method method = named(call.group(1));
        check(method != null, "no such method: " + line);
        if (method == null) {
            return;
        }
        Object answer = method.invoke(tree, arguments(call.group(2)));
        String got = answer == null ? "nothing" : answer.toString();
        String want = call.group(3) == null ? "nothing" : call.group(3);
        check(got.equals(want), line + " answered " + got);
    }

    /** The names of the methods that the example calls. */
    private static Set<String> example(List<String> lines) throws ReflectiveOperationException {
        Set<String> called = new TreeSet<>();
        DeltaTree tree = new DeltaTree();
        boolean inside = false;
        for (String line : lines) {
            Matcher call = CALL.matcher(line);
            if (line.startsWith("```")) {
                inside = line.equals("```java");
            } else if (inside && call.matches()) {
                makeCall(tree, line, call);
                called.add(call.group(1));
            } else if (inside) {
                check(line.equals("DeltaTree tree = new DeltaTree();"), "not a call: " + line);
            }
        }
        return called;
    }

    private static Set<String> table(List<String> lines) {
        Set<String> told = new TreeSet<>();
        for (String line : lines) {
            Matcher row = ROW.matcher(line);
            if (row.matches()) {
                told.add(row.group(1));
            }
        }
        return told;
    }

    public static void main(String[] args) throws IOException, ReflectiveOperationException {
        List<String> lines = Files.readAllLines(Path.of("README.md"));
        Set<String> face = new TreeSet<>();
        for (Method method : DeltaTree.class.getDeclaredMethods()) {
            if (Modifier.isPublic(method.getModifiers())) {
                face.add(method.getName());
            }
        }
        Set<String> called = example(lines);
        check(called.equals(face), "the example calls " + called + ", due are " + face);
        Set<String> told = table(lines);
        check(told.equals(face), "the table tells of " + told + ", due are " + face);
        System.out.println(wrong == 0 ? "the example of README.md answers as it says" : wrong + " faults of README.md");
        if (wrong != 0) {
            System.exit(1);
        }
    }
}
