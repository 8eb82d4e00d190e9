import java.io.IOException;
import java.lang.reflect.Method;
import java.lang.reflect.Modifier;
import java.nio.file.Files;
import java.nio.file.Path;
import java.util.Arrays;
import java.util.HashMap;
import java.util.List;
import java.util.Map;
import java.util.regex.Matcher;
import java.util.regex.Pattern;

/** README.md's example answers as it says there, and its tables leave no call out. */
public final class ReadmeTests {
    private static final Pattern CALL = Pattern.compile("x\\.(\\w+)\\(([^)]*)\\);\\s*// (-?\\d+): .*");
    private static final Pattern TYPED = Pattern.compile("for \\(char c : \"([^\"]*)\"\\.toCharArray\\(\\)\\) \\{");
    /** The other rows of the example: the object's own, and the loop's body and end. */
    private static final Pattern SILENT = Pattern.compile("ScreenVotes x = new ScreenVotes\\(\\);|x\\.type\\(c\\);.*|\\}");
    private static int wrong = 0;

    private static void due(String what, Object got, Object want) {
        if (!got.equals(want)) {
            wrong++;
            System.out.println("README.md: " + what + ": " + got + ", due is " + want);
        }
    }

    private static Map<String, Method> face() {
        Map<String, Method> face = new HashMap<>();
        for (Method m : ScreenVotes.class.getDeclaredMethods()) {
            if (Modifier.isPublic(m.getModifiers())) {
                face.put(m.getName(), m);
            }
        }
        return face;
    }

    private static long answer(ScreenVotes x, Method m, String arguments) throws ReflectiveOperationException {
        Object[] given = arguments.isEmpty() ? new Object[0]
            : Arrays.stream(arguments.split(", ")).map(Integer::valueOf).toArray();
        return ((Number) m.invoke(x, given)).longValue();
    }

    private static void example(List<String> rows, Map<String, Method> face) throws ReflectiveOperationException {
        ScreenVotes x = new ScreenVotes();
        int compared = 0;
        for (String row : rows) {
            Matcher call = CALL.matcher(row.strip());
            Matcher typed = TYPED.matcher(row.strip());
            if (call.matches()) {
                due(row, answer(x, face.get(call.group(1)), call.group(2)), Long.valueOf(call.group(3)));
                compared++;
            } else if (typed.matches()) {
                typed.group(1).chars().forEach(x::type);
            } else {
                due("a row that the test can't read", SILENT.matcher(row.strip()).matches() ? "" : row, "");
            }
        }
        due("the example has calls", compared > 0, true);
    }

    private static List<String> javaBlock(List<String> readme) {
        int from = readme.indexOf("```java") + 1;
        return readme.subList(from, from + readme.subList(from, readme.size()).indexOf("```"));
    }

    public static void main(String[] args) throws IOException, ReflectiveOperationException {
        List<String> readme = Files.readAllLines(Path.of("README.md"));
        Map<String, Method> face = face();
        example(javaBlock(readme), face);
        for (String name : face.keySet()) {
            due("tables that name " + name,
                readme.stream().filter(row -> row.startsWith("| `") && row.contains("`" + name + "`")).count(), 1L);
        }
        System.out.println(wrong == 0 ? "README.md tells it as it is" : wrong + " things in README.md do not hold");
        if (wrong != 0) {
            System.exit(1);
        }
    }
}
