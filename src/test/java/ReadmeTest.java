import java.io.IOException;
import java.lang.reflect.InvocationTargetException;
import java.lang.reflect.Method;
import java.lang.reflect.Modifier;
import java.nio.charset.StandardCharsets;
import java.nio.file.Files;
import java.nio.file.Path;
import java.util.ArrayList;
import java.util.LinkedHashSet;
import java.util.List;
import java.util.Map;
import java.util.Set;
import java.util.TreeMap;
import java.util.TreeSet;
import java.util.function.Supplier;
import java.util.regex.Matcher;
import java.util.regex.Pattern;

/** README.md: the calls in it answer as their rows say, its table has every call and what refuses it. */
public final class ReadmeTest {
    private static final Pattern JAVA = Pattern.compile("```java\n(.*?)```", Pattern.DOTALL);
    private static final Pattern MADE = Pattern.compile("LightKeepers x = new LightKeepers\\(\\);");
    private static final Pattern TEXT = Pattern.compile("for \\(char c : \"(.*)\"\\.toCharArray\\(\\)\\) \\{");
    private static final Pattern CALL = Pattern.compile("x\\.(\\w+)\\(([-\\d, ]*)\\); +// (-?\\d+)(:.*|, .*|)");
    private static final Pattern ROW = Pattern.compile("\\| `(\\w+)\\(([\\w, ]*)\\)` \\|.*\\| ([^|]*) \\|");
    private static final Pattern NUMBER = Pattern.compile("\\| `([A-Z]+)` \\| (-\\d+) \\|.*");
    private static final Map<Long, String> REFUSALS =
            Map.of(-1L, "`BAD`", -2L, "`STATE`", -3L, "`FULL`", -1000000L, "`NO`");
    private static final int[] NUMBERS = {-2, -1, 0, 1, 2, 3, 5, 6, 11, 300};
    private static final Check check = new Check();

    private static String page;
    private static LightKeepers x;

    public static void main(String[] args) throws IOException {
        page = Files.readString(Path.of("README.md"), StandardCharsets.US_ASCII);
        check.all(ReadmeTest.class);
    }

    private static void callsAnswerAsTheirRowsSay() {
        check.of("README.md: the calls");
        int calls = 0;
        Matcher parts = JAVA.matcher(page);
        while (parts.find()) {
            for (String row : parts.group(1).split("\n")) {
                calls += isAnswered(row) ? 1 : 0;
            }
        }
        check.due("more than twenty calls", 1, calls > 20 ? 1 : 0);
    }

    /** Does what a row of the page says; whether the row tells an answer. */
    private static boolean isAnswered(String row) {
        Matcher text = TEXT.matcher(row);
        Matcher call = CALL.matcher(row);
        if (MADE.matcher(row).matches()) {
            x = new LightKeepers();
        } else if (text.matches()) {
            Check.type(x, text.group(1));
        } else if (call.matches()) {
            String[] numbers = call.group(2).isEmpty() ? new String[0] : call.group(2).split(", ");
            Object[] parts = new Object[numbers.length];
            for (int i = 0; i < parts.length; i++) {
                parts[i] = Integer.valueOf(numbers[i]);
            }
            check.due(row, Long.parseLong(call.group(3)), ask(method(call.group(1)), x, parts));
            return true;
        } else {
            boolean isOfText = row.equals("    x.type(c);") || row.equals("}");
            check.due("understood: " + row, 1, isOfText ? 1 : 0);
        }
        return false;
    }

    private static Method method(String name) {
        for (Method m : LightKeepers.class.getMethods()) {
            if (m.getName().equals(name) && m.getDeclaringClass() == LightKeepers.class) {
                return m;
            }
        }
        throw new IllegalStateException("no such call: " + name);
    }

    private static long ask(Method method, LightKeepers of, Object... parts) {
        try {
            return ((Number) method.invoke(of, parts)).longValue();
        } catch (IllegalAccessException | InvocationTargetException thrown) {
            throw new IllegalStateException(method + " threw", thrown);
        }
    }

    /** The rows of the table of calls: by the call's name how many parts it has, and what refuses it. */
    private static Map<String, String> rows() {
        Map<String, String> rows = new TreeMap<>();
        for (String line : page.split("\n")) {
            Matcher row = ROW.matcher(line);
            if (row.matches()) {
                int parts = row.group(2).isEmpty() ? 0 : row.group(2).split(",").length;
                check.due("told twice: " + row.group(1), "null",
                        String.valueOf(rows.put(row.group(1), parts + " " + row.group(3).trim())));
            }
        }
        return rows;
    }

    private static void tableHasEveryCallAndItsRefusals() {
        check.of("README.md: the table of the calls");
        Map<String, String> due = new TreeMap<>();
        for (Method m : LightKeepers.class.getDeclaredMethods()) {
            if (Modifier.isPublic(m.getModifiers())) {
                due.put(m.getName(), m.getParameterCount() + " " + String.join(", ", refusals(m)));
            }
        }
        Map<String, String> rows = rows();
        Set<String> names = new TreeSet<>(rows.keySet());
        names.addAll(due.keySet());
        for (String name : names) {
            check.due(name, String.valueOf(due.get(name)).trim(), String.valueOf(rows.get(name)).trim());
        }
    }

    /** All objects that calls are tried on: new, busy, full, at moon 99. */
    private static List<Supplier<LightKeepers>> objects() {
        List<Supplier<LightKeepers>> objects = new ArrayList<>();
        objects.add(LightKeepers::new);
        objects.add(Check::busy);
        objects.add(() -> {
            LightKeepers full = Check.coast("k9;k9;");
            Check.type(full, ";".repeat(120));
            for (int i = 0; i < 6; i++) {
                full.saw(0, 1);
            }
            return full;
        });
        objects.add(() -> {
            LightKeepers late = Check.coast("k9;");
            for (int i = 0; i < 99; i++) {
                late.moon(0);
            }
            return late;
        });
        return objects;
    }

    /** What refuses a call when it is tried with many numbers, in the order of the document. */
    private static Set<String> refusals(Method method) {
        Set<String> refusals = new TreeSet<>();
        int tries = 1;
        for (int i = 0; i < method.getParameterCount(); i++) {
            tries *= NUMBERS.length;
        }
        for (Supplier<LightKeepers> object : objects()) {
            for (int number = 0; number < tries; number++) {
                long answer = ask(method, object.get(), parts(method.getParameterCount(), number));
                // marks may be below 0
                boolean isMark = method.getName().equals("mark") && answer != LightKeepers.NO;
                if (REFUSALS.containsKey(answer) && !isMark) {
                    refusals.add(REFUSALS.get(answer));
                }
            }
        }
        Set<String> ordered = new LinkedHashSet<>(List.of("`BAD`", "`STATE`", "`FULL`", "`NO`"));
        ordered.retainAll(refusals);
        return ordered;
    }

    private static Object[] parts(int many, int number) {
        Object[] parts = new Object[many];
        int rest = number;
        for (int i = 0; i < many; i++) {
            parts[i] = NUMBERS[rest % NUMBERS.length];
            rest /= NUMBERS.length;
        }
        return parts;
    }

    private static void refusalsHaveTheirNumbers() {
        check.of("README.md: how the calls refuse");
        Map<String, String> told = new TreeMap<>();
        for (String line : page.split("\n")) {
            Matcher row = NUMBER.matcher(line);
            if (row.matches()) {
                told.put(row.group(1), row.group(2));
            }
        }
        check.due("the table", "{BAD=-1, FULL=-3, NO=-1000000, STATE=-2}", told.toString());
        check.due("NONE", 1, page.contains("`NONE` (" + LightKeepers.NONE + ")") ? 1 : 0);
    }

    private static void testsAreNamed() throws IOException {
        check.of("README.md: the tests");
        try (var files = Files.list(Path.of("src/test/java"))) {
            for (Path file : (Iterable<Path>) files.sorted()::iterator) {
                String name = file.getFileName().toString().replace(".java", "");
                check.due(name + " is told of", 1, page.contains("`" + name + "`") ? 1 : 0);
            }
        }
    }
}
