import java.io.IOException;
import java.lang.reflect.Field;
import java.lang.reflect.InvocationTargetException;
import java.lang.reflect.Method;
import java.lang.reflect.Modifier;
import java.nio.file.DirectoryStream;
import java.nio.file.Files;
import java.nio.file.Path;
import java.util.ArrayList;
import java.util.Arrays;
import java.util.List;
import java.util.Map;
import java.util.Set;
import java.util.TreeMap;
import java.util.TreeSet;
import java.util.function.Supplier;
import java.util.regex.Matcher;
import java.util.regex.Pattern;

/** What README.md shows is what the class answers. Run from the project's folder, as .ci/run does. */
public final class ReadmeTest {
    private static final String MADE = "MeshLamps mesh = new MeshLamps();";
    private static final Pattern CALL = Pattern.compile("mesh\\.(\\w+)\\(([-\\d, ]*)\\); +// (-?\\w+): .+");
    private static final Pattern CALL_ROW = Pattern.compile("\\| `(\\w+)\\(([\\w, ]*)\\)` \\|.*\\|([^|]*)\\|");
    private static final Pattern CONSTANT_ROW = Pattern.compile("\\| `([A-Z]+)` \\| (-\\d+) \\|.*");
    private static final Pattern TEST_ROW = Pattern.compile("\\| `(\\w+Test)` \\|.*");

    // Numbers that bring about each refusal of each call in one of the scenes.
    private static final int[] ARGUMENTS = {-1, 0, 1, 3, 4, 10, 101};

    public static void main(String[] args) throws IOException, ReflectiveOperationException {
        List<String> lines = Files.readAllLines(Path.of("README.md"));
        blocksAnswerAsShown(lines);
        callsAreThoseOfTheClass(lines);
        refusalsAreThoseOfTheClass(lines);
        constantsAreThoseOfTheClass(lines);
        testsAreThoseOfTheProject(lines);
        Check.end();
    }

    /** Each block stands by itself: it begins with a new object, and each of its lines is a call with its answer. */
    private static void blocksAnswerAsShown(List<String> lines) throws ReflectiveOperationException {
        int blocks = 0;
        boolean inside = false;
        MeshLamps mesh = null;
        for (String line : lines) {
            if (line.startsWith("```")) {
                inside = line.equals("```java");
                blocks += inside ? 1 : 0;
                mesh = null;
            } else if (inside && line.equals(MADE)) {
                mesh = new MeshLamps();
            } else if (inside) {
                Check.due("the block begins with a new object: " + line, mesh != null);
                callAnswersAsShown(mesh, line);
            }
        }
        Check.due("there are blocks", blocks > 0);
    }

    private static void callAnswersAsShown(MeshLamps mesh, String line) throws ReflectiveOperationException {
        Matcher call = CALL.matcher(line);
        boolean readable = call.matches();
        Check.due("a call with its answer: " + line, readable);
        if (readable && mesh != null) {
            Check.due(line, answer(mesh, method(call.group(1)), numbers(call.group(2))), shown(call.group(3)));
        }
    }

    private static int shown(String answer) throws ReflectiveOperationException {
        return Character.isLetter(answer.charAt(0)) ? constant(answer) : Integer.parseInt(answer);
    }

    private static void callsAreThoseOfTheClass(List<String> lines) {
        Set<String> shown = new TreeSet<>();
        for (Matcher row : rows(lines, CALL_ROW)) {
            shown.add(row.group(1) + "/" + words(row.group(2)).length);
        }
        Set<String> due = new TreeSet<>();
        for (Method method : publicMethods()) {
            due.add(method.getName() + "/" + method.getParameterCount());
        }
        Check.same("the calls", shown.toString(), due.toString());
    }

    private static void refusalsAreThoseOfTheClass(List<String> lines) throws ReflectiveOperationException {
        for (Matcher row : rows(lines, CALL_ROW)) {
            Set<Integer> shown = new TreeSet<>();
            for (String word : words(row.group(3))) {
                shown.add(constant(word));
            }
            Check.same("the refusals of " + row.group(1), shown.toString(), refusals(method(row.group(1))).toString());
        }
    }

    /** Which refusals a call answers, in scenes where each of them can fit. */
    private static Set<Integer> refusals(Method method) throws ReflectiveOperationException {
        List<Supplier<MeshLamps>> scenes = List.of(MeshLamps::new, Scenes::sleeper, () -> Scenes.onlyOneHasKey(9),
            () -> Scenes.inAir(64, 1));
        Set<Integer> seen = new TreeSet<>();
        for (Supplier<MeshLamps> scene : scenes) {
            for (int[] arguments : allArguments(method.getParameterCount())) {
                int answer = answer(scene.get(), method, arguments);
                if (answer < 0 && answer != MeshLamps.NONE) {
                    seen.add(answer);
                }
            }
        }
        return seen;
    }

    private static List<int[]> allArguments(int many) {
        List<int[]> all = new ArrayList<>(List.of(new int[0]));
        for (int i = 0; i < many; i++) {
            List<int[]> longer = new ArrayList<>();
            for (int[] before : all) {
                for (int argument : ARGUMENTS) {
                    int[] with = Arrays.copyOf(before, before.length + 1);
                    with[before.length] = argument;
                    longer.add(with);
                }
            }
            all = longer;
        }
        return all;
    }

    private static void constantsAreThoseOfTheClass(List<String> lines) throws ReflectiveOperationException {
        Map<String, Integer> shown = new TreeMap<>();
        for (Matcher row : rows(lines, CONSTANT_ROW)) {
            shown.put(row.group(1), Integer.parseInt(row.group(2)));
        }
        Map<String, Integer> due = new TreeMap<>();
        for (Field field : MeshLamps.class.getFields()) {
            due.put(field.getName(), field.getInt(null));
        }
        Check.same("the constants", shown.toString(), due.toString());
    }

    private static void testsAreThoseOfTheProject(List<String> lines) throws IOException {
        Set<String> shown = new TreeSet<>();
        for (Matcher row : rows(lines, TEST_ROW)) {
            shown.add(row.group(1));
        }
        Set<String> due = new TreeSet<>();
        try (DirectoryStream<Path> files = Files.newDirectoryStream(Path.of("src/test/java"), "*Test.java")) {
            for (Path file : files) {
                due.add(file.getFileName().toString().replace(".java", ""));
            }
        }
        Check.same("the tests", shown.toString(), due.toString());
    }

    private static List<Matcher> rows(List<String> lines, Pattern form) {
        List<Matcher> rows = new ArrayList<>();
        for (String line : lines) {
            Matcher row = form.matcher(line);
            if (row.matches()) {
                rows.add(row);
            }
        }
        return rows;
    }

    private static String[] words(String list) {
        return list.isBlank() ? new String[0] : list.trim().split(", *");
    }

    private static int[] numbers(String list) {
        return Arrays.stream(words(list)).mapToInt(Integer::parseInt).toArray();
    }

    private static List<Method> publicMethods() {
        return Arrays.stream(MeshLamps.class.getDeclaredMethods())
            .filter(method -> Modifier.isPublic(method.getModifiers())).toList();
    }

    private static Method method(String name) throws NoSuchMethodException {
        for (Method method : publicMethods()) {
            if (method.getName().equals(name)) {
                return method;
            }
        }
        throw new NoSuchMethodException(name);
    }

    private static int constant(String name) throws ReflectiveOperationException {
        return MeshLamps.class.getField(name).getInt(null);
    }

    private static int answer(MeshLamps mesh, Method method, int[] arguments)
            throws IllegalAccessException, InvocationTargetException {
        return (int) method.invoke(mesh, Arrays.stream(arguments).boxed().toArray());
    }
}
