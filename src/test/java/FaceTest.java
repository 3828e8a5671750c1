import java.io.IOException;
import java.lang.reflect.Constructor;
import java.lang.reflect.Field;
import java.lang.reflect.Method;
import java.lang.reflect.Modifier;
import java.nio.charset.StandardCharsets;
import java.nio.file.Files;
import java.nio.file.Path;
import java.util.Arrays;
import java.util.Set;
import java.util.TreeSet;
import java.util.regex.Matcher;
import java.util.regex.Pattern;

/** The public face, the constants, and rules of LANGUAGE.md that a reading of the source can check. */
public final class FaceTest {
    private static final String[] FACE = {
        "int back(int)", "int clear()", "int coast()", "int count(int)", "int fits(int)", "int forget()",
        "int homeward(int,int)", "int keep(int)", "int keeper(int,int)", "int mark(int,int)",
        "int moon(int)", "int now(int)", "int odds(int,int,int)", "int puts(int,int)", "int rock(int)",
        "int saw(int,int)", "int ship(int,int)", "int trade(int,int,int)", "int type(int)", "int undo()",
        "long trace()"};
    private static final Set<String> IMPORTS = Set.of("java.util.ArrayList", "java.util.Arrays",
            "java.util.Iterator", "java.util.List");
    private static final Check check = new Check();

    public static void main(String[] args) throws IOException {
        check.of("The public face: the constants");
        constants();
        check.of("The public face");
        face();
        check.of("LANGUAGE.md 1, 5, 12: the classes inside");
        nestedClasses(LightKeepers.class);
        check.of("LANGUAGE.md 7: no call may ever throw");
        anyNumbers();
        check.of("LANGUAGE.md 2, 4, 6: what may not stand in the source");
        source(Path.of("src/main/java/LightKeepers.java"));
        check.end();
    }

    private static void holds(String rule, boolean held) {
        check.due(rule, 1, held ? 1 : 0);
    }

    private static void constants() {
        check.due("BAD", -1, LightKeepers.BAD);
        check.due("STATE", -2, LightKeepers.STATE);
        check.due("FULL", -3, LightKeepers.FULL);
        check.due("NONE", -9, LightKeepers.NONE);
        check.due("NO", -1000000, LightKeepers.NO);
    }

    private static void face() {
        Class<?> face = LightKeepers.class;
        holds("public final class", Modifier.isPublic(face.getModifiers())
                && Modifier.isFinal(face.getModifiers()));
        Set<String> methods = new TreeSet<>();
        Set<String> privates = new TreeSet<>();
        for (Method m : face.getDeclaredMethods()) {
            if (Modifier.isPrivate(m.getModifiers())) {
                privates.add(m.getName());
            } else {
                holds("public: " + m.getName(), Modifier.isPublic(m.getModifiers()));
                StringBuilder parts = new StringBuilder();
                for (Class<?> part : m.getParameterTypes()) {
                    parts.append(parts.isEmpty() ? "" : ",").append(part.getName());
                }
                methods.add(m.getReturnType().getName() + " " + m.getName() + "(" + parts + ")");
            }
        }
        holds("the methods: " + methods, methods.equals(new TreeSet<>(Arrays.asList(FACE))));
        for (String method : FACE) {
            String name = method.substring(method.indexOf(' ') + 1, method.indexOf('('));
            holds("no private method " + name, !privates.contains(name));
        }
        Constructor<?>[] makers = face.getDeclaredConstructors();
        holds("one public constructor", makers.length == 1 && makers[0].getParameterCount() == 0
                && Modifier.isPublic(makers[0].getModifiers()));
        Set<String> visible = new TreeSet<>();
        for (Field f : face.getDeclaredFields()) {
            if (!Modifier.isPrivate(f.getModifiers())) {
                visible.add(f.getName());
            }
        }
        holds("the constants: " + visible,
                visible.equals(Set.of("BAD", "STATE", "FULL", "NONE", "NO")));
    }

    private static void nestedClasses(Class<?> outer) {
        int classes = 1;
        staticsAreFinal(outer);
        for (Class<?> inner : outer.getDeclaredClasses()) {
            classes++;
            staticsAreFinal(inner);
            holds("a static class: " + inner, Modifier.isStatic(inner.getModifiers()));
        }
        holds("twelve classes at most", classes <= 12);
    }

    private static void staticsAreFinal(Class<?> type) {
        int own = 0;
        for (Field f : type.getDeclaredFields()) {
            holds("static and final: " + f,
                    !Modifier.isStatic(f.getModifiers()) || Modifier.isFinal(f.getModifiers()));
            own += Modifier.isStatic(f.getModifiers()) ? 0 : 1;
        }
        holds("twenty fields at most: " + type, own <= 20);
    }

    /** No call throws, whatever the numbers; what they answer is told by the other tests. */
    private static void anyNumbers() {
        int[] odd = {Integer.MIN_VALUE, -1000, -2, -1, 0, 1, 5, 6, 31, 32, 33, 1 << 30, Integer.MAX_VALUE};
        for (String text : new String[] {"", "k1;", "k1;k2;k1;k3;k9;k1;h0 1;s2;"}) {
            for (int a : odd) {
                LightKeepers x = Check.coast(text);
                for (int b : odd) {
                    threeNumbers(a, b, odd, x);
                }
                oneNumber(x, a);
                holds("still whole", x.count(0) == text.chars().filter(c -> c == 'k').count());
            }
        }
    }

    /** Some thirty calls, so that an object has no more than 512 in all. */
    private static void threeNumbers(int a, int b, int[] odd, LightKeepers x) {
        for (int c : odd) {
            x.trade(a, b, c);
            x.odds(a, b, c);
        }
        x.keeper(a, b);
        x.puts(a, b);
        x.homeward(a, b);
        x.ship(a, b);
        x.saw(a, b);
        x.mark(a, b);
    }

    private static void oneNumber(LightKeepers x, int a) {
        x.type(a);
        x.rock(a);
        x.moon(a);
        x.now(a);
        x.fits(a);
        x.keep(a);
        x.back(a);
        x.count(a);
    }

    private static void source(Path path) throws IOException {
        String text = Files.readString(path, StandardCharsets.US_ASCII);
        String code = text.replaceAll("(?s)/\\*.*?\\*/", "").replaceAll("//[^\n]*", "");
        String[] words = {"throw", "throws", "try", "catch", "synchronized", "assert", "package", "finally",
            "System\\.out", "String\\.format", "Random", "Thread", "hashCode", "\\w+Exact"};
        for (String word : words) {
            holds("no " + word, !Pattern.compile("\\b" + word + "\\b").matcher(code).find());
        }
        holds("no lambda, no method reference", !code.contains("->") && !code.contains("::"));
        Matcher imports = Pattern.compile("import ([^;]+);").matcher(code);
        while (imports.find()) {
            holds("import " + imports.group(1), IMPORTS.contains(imports.group(1)));
        }
    }
}
