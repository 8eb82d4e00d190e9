import java.io.IOException;
import java.lang.management.ManagementFactory;
import java.lang.reflect.Constructor;
import java.lang.reflect.Field;
import java.lang.reflect.Method;
import java.lang.reflect.Modifier;
import java.nio.file.Files;
import java.nio.file.Path;
import java.util.Arrays;
import java.util.HashMap;
import java.util.Map;
import java.util.Set;
import java.util.TreeSet;
import java.util.regex.Matcher;
import java.util.regex.Pattern;
import java.util.stream.Collectors;

/** The document's face and no more, the rules of the language that can be told from the file, and the room. */
public final class FaceTests {
    private static final Path SOURCE = Path.of("src/main/java/ScreenVotes.java");
    private static final String[] FACE = {
        "int player(int)", "int jurors(int)", "int draw(int)", "int order(int)", "int votes(int,int,int)",
        "int type(int)", "int repeal()", "int fault()", "int law(int,int)", "int advance(int)", "int through(int)",
        "int chosen()", "int other(int)", "int chance(int,int)", "int passes(int,int)", "int all(int)",
        "int doubt(int,int,int,int)", "int morning(int,int)", "int trial(int)", "int week(int,int)",
        "int better(int,int)", "int seat()", "int hear(int,int,int)", "int known(int,int)", "int sheet(int,int,int)",
        "int lose(int)", "int put(int,int,int,int)", "int get(int,int,int)", "int copy(int,int,int,int,int)",
        "int count(int)", "long digest()"};
    private static int wrong = 0;

    private static void due(String what, Object got, Object want) {
        if (!got.equals(want)) {
            wrong++;
            System.out.println(what + ": " + got + ", due is " + want);
        }
    }

    private static String told(Method m) {
        String arguments = Arrays.stream(m.getParameterTypes()).map(Class::getName).collect(Collectors.joining(","));
        return m.getReturnType().getName() + " " + m.getName() + "(" + arguments + ")";
    }

    private static void face() {
        Class<?> c = ScreenVotes.class;
        due("the class is public and final", Modifier.toString(c.getModifiers()), "public final");
        Set<String> open = new TreeSet<>();
        for (Method m : c.getDeclaredMethods()) {
            if (!Modifier.isPrivate(m.getModifiers())) {
                due(m.getName() + " is public alone", Modifier.toString(m.getModifiers()), "public");
                open.add(told(m));
            }
            due("methods that are called " + m.getName(), Arrays.stream(c.getDeclaredMethods())
                .filter(other -> other.getName().equals(m.getName())).count(), 1L);
        }
        due("the methods", open, new TreeSet<>(Arrays.asList(FACE)));
        Set<String> constants = new TreeSet<>();
        for (Field f : c.getDeclaredFields()) {
            if (!Modifier.isPrivate(f.getModifiers())) {
                constants.add(Modifier.toString(f.getModifiers()) + " " + f.getType() + " " + f.getName());
            }
        }
        due("the constants", constants, new TreeSet<>(Arrays.asList("public static final int NONE",
            "public static final int BAD", "public static final int NOT", "public static final int FULL")));
        Constructor<?>[] made = c.getDeclaredConstructors();
        due("one constructor", made.length, 1);
        due("it is public, without arguments", made[0].toString(), "public ScreenVotes()");
        due("NONE BAD NOT FULL", Arrays.asList(ScreenVotes.NONE, ScreenVotes.BAD, ScreenVotes.NOT, ScreenVotes.FULL),
            Arrays.asList(-1, -2, -3, -4));
    }

    private static void namesInside() {
        Set<String> names = Arrays.stream(FACE).map(f -> f.replaceAll("^\\w+ |\\(.*", "")).collect(Collectors.toSet());
        due("at most twelve classes", ScreenVotes.class.getDeclaredClasses().length <= 11, true);
        for (Class<?> inside : ScreenVotes.class.getDeclaredClasses()) {
            due(inside + " is static", Modifier.isStatic(inside.getModifiers()), true);
            for (Method m : inside.getDeclaredMethods()) {
                due(inside + " has a method with a name of the face, " + m.getName(), names.contains(m.getName()), false);
                due(m + " takes at most seven", m.getParameterCount() <= 7, true);
            }
            due(inside + " has at most twenty fields", inside.getDeclaredFields().length <= 20, true);
        }
    }

    private static void staticFields(Class<?> c) {
        for (Field f : c.getDeclaredFields()) {
            if (Modifier.isStatic(f.getModifiers())) {
                due(f + " is final", Modifier.isFinal(f.getModifiers()), true);
            }
        }
    }

    private static void language() throws IOException {
        String code = Files.readString(SOURCE).replaceAll("(?s)/\\*.*?\\*/", "").replaceAll("//[^\n]*", "");
        String[] never = {"\\b(throw|throws|try|catch|synchronized|assert|import|package|protected)\\b", "->", "::",
            "\\bnew\\s+\\w+\\s*\\([^)]*\\)\\s*\\{", "Exact\\b", "\"", "\\bstatic\\s*\\{",
            "\\b(equals|hashCode|toString)\\b", "\\b(Object|Thread|Random|double|float)\\b"};
        for (String rule : never) {
            Matcher m = Pattern.compile(rule).matcher(code);
            due("the file has no " + rule, m.find() ? m.group() : "", "");
        }
        Matcher library = Pattern.compile("\\b(Integer|Long|Math|System|Arrays)\\.(\\w+)").matcher(code);
        Set<String> allowed = Set.of("Integer.bitCount", "Integer.compare", "Math.max", "System.arraycopy");
        while (library.find()) {
            due("a known part of the library: " + library.group(), allowed.contains(library.group()), true);
        }
    }

    private static final int MOST_LINES = 60, MOST_DEEP = 8;
    private static final Pattern HEAD = Pattern.compile("( +)(?:(?:public|private|static) )*\\w+(?:\\[\\])? (\\w+)\\(.*\\) \\{");

    /** Methods of one name are taken as one: what is told so is never less than it is. */
    private static Map<String, String> bodies(String code) {
        Map<String, String> bodies = new HashMap<>();
        String[] lines = code.split("\n");
        for (int from = 0; from < lines.length; from++) {
            Matcher head = HEAD.matcher(lines[from]);
            if (head.matches() && !head.group().contains("else if")) {
                int to = from + 1;
                while (!lines[to].equals(head.group(1) + "}")) {
                    to++;
                }
                due(head.group(2) + " is short", to + 1 - from <= MOST_LINES, true);
                bodies.merge(head.group(2), String.join("\n", Arrays.asList(lines).subList(from + 1, to)), String::concat);
            }
        }
        return bodies;
    }

    private static int depth(String method, Map<String, String> bodies, int open) {
        int deepest = open;
        Matcher call = Pattern.compile("\\b(\\w+)\\(").matcher(bodies.get(method));
        while (open <= MOST_DEEP && call.find()) {
            if (bodies.containsKey(call.group(1))) {
                deepest = Math.max(deepest, depth(call.group(1), bodies, open + 1));
            }
        }
        return deepest;
    }

    private static void shortAndShallow() throws IOException {
        Map<String, String> bodies = bodies(Files.readString(SOURCE));
        for (String method : FACE) {
            String name = method.replaceAll("^\\w+ |\\(.*", "");
            due(name + " is found in the file", bodies.containsKey(name), true);
            due(name + " goes at most eight deep", bodies.containsKey(name) && depth(name, bodies, 1) <= MOST_DEEP, true);
        }
    }

    private static long callAll(ScreenVotes x, int k) {
        long sum = x.player(k & 511) + x.jurors(1 + k % 9) + x.draw(k) + x.order(k % 24) + x.votes(k % 24, k % 4, k % 2);
        sum += x.type("v50a3s;v1a2d".charAt(x.count(2) % 12)) + x.fault() + x.law(k % 4, k % 3) + x.advance(k % 4);
        sum += x.through(k % 4) + x.chosen() + x.other(1 + k % 3) + x.chance(k % 5, k % 101) + x.passes(k % 5, 1 + k % 100);
        sum += x.all(k % 5) + x.doubt(k % 16, 3, 4, 5) + x.morning(k % 4, k % 5) + x.trial(k % 24) + x.week(k % 6, k % 21);
        sum += x.better(k % 6, 2) + x.seat() + x.hear(k, k % 100, k % 5) + x.known(k, k % 3) + x.sheet(k % 4, k % 3, k % 241);
        sum += x.put(k % 4, k % 3, k % 200, k % 3 - 1) + x.get(k % 4, k % 3, 5) + x.copy(k % 4, 1, k % 4, 2, 30) + x.count(6);
        sum += k % 5 == 0 ? x.lose(k % 4) : 0;
        sum += k % 30 == 0 ? x.repeal() : 0;
        return sum + x.digest();
    }

    private static long callMany(ScreenVotes[] objects) {
        long sum = 0;
        for (int k = 0; k < 15 * objects.length; k++) {
            sum += callAll(objects[k / 15], k);
        }
        return sum;
    }

    private static ScreenVotes[] newObjects(int n) {
        ScreenVotes[] objects = new ScreenVotes[n];
        for (int i = 0; i < n; i++) {
            objects[i] = new ScreenVotes();
        }
        return objects;
    }

    /** Rows are made in the constructor alone: a run's calls (some 450 for each object here) add nothing to the room. */
    private static void room() {
        com.sun.management.ThreadMXBean meter = (com.sun.management.ThreadMXBean) ManagementFactory.getThreadMXBean();
        long sum = callMany(newObjects(200));
        ScreenVotes[] objects = newObjects(1000);
        long id = Thread.currentThread().getId();
        long before = meter.getThreadAllocatedBytes(id);
        sum += callMany(objects);
        long made = meter.getThreadAllocatedBytes(id) - before;
        due("15000 rounds of all calls make less than 100000 bytes (" + made + ", " + sum + ")", made < 100000, true);
    }

    public static void main(String[] args) throws IOException {
        face();
        namesInside();
        staticFields(ScreenVotes.class);
        for (Class<?> inside : ScreenVotes.class.getDeclaredClasses()) {
            staticFields(inside);
        }
        language();
        shortAndShallow();
        room();
        System.out.println(wrong == 0 ? "the face and the rules are kept" : wrong + " rules are not kept");
        if (wrong != 0) {
            System.exit(1);
        }
    }
}
