import java.lang.reflect.Method;
import java.util.Arrays;
import java.util.Comparator;
import java.util.function.Supplier;
import java.util.function.ToLongFunction;

/** What the tests have in common: sentences of the document, answers that are due, texts. */
final class Check {
    private String sentence = "";
    private int sentences = 0;
    private int asked = 0;
    private int wrong = 0;

    /** Runs all tests of a class, its methods without parameters that answer nothing, each for itself. */
    void all(Class<?> tests) {
        Method[] methods = tests.getDeclaredMethods();
        Arrays.sort(methods, Comparator.comparing(Method::getName));
        for (Method method : methods) {
            if (method.getParameterCount() == 0 && method.getReturnType() == void.class) {
                run(method);
            }
        }
        end();
    }

    /** What a test throws is told as wrong, and the next one goes on. */
    private void run(Method test) {
        try {
            test.setAccessible(true);
            test.invoke(null);
        } catch (ReflectiveOperationException thrown) {
            due(test.getName(), "as told", String.valueOf(thrown.getCause()));
        }
    }

    /** The sentence of the document that the answers to come are about; wrong ones are told with it. */
    void of(String words) {
        sentence = words;
        sentences++;
    }

    void due(String call, long want, long got) {
        due(call, Long.toString(want), Long.toString(got));
    }

    void due(String call, String want, String got) {
        asked++;
        if (!got.equals(want)) {
            wrong++;
            System.out.println("'" + sentence + "': " + call + " answered " + got + ", due is " + want);
        }
    }

    void dueWho(String after, String want, LightKeepers x) {
        due("who is where after " + after, want, Probe.who(x));
    }

    void dueCounts(LightKeepers x, int... counts) {
        for (int what = 0; what < counts.length; what++) {
            due("count(" + what + ")", counts[what], x.count(what));
        }
    }

    void dueNows(LightKeepers x, int... nows) {
        for (int what = 0; what < nows.length; what++) {
            due("now(" + what + ")", nows[what], x.now(what));
        }
    }

    /** A call that answers so and changes nothing: who had it goes on as one who had all others alone. */
    void changesNothing(String call, long want, Supplier<LightKeepers> made, ToLongFunction<LightKeepers> ask) {
        LightKeepers with = made.get();
        due(call, want, ask.applyAsLong(with));
        due("all after " + call, Probe.all(made.get()), Probe.all(with));
    }

    /** Tells how many answers were wrong; with code 1, if any was. */
    void end() {
        System.out.println(sentences + " sentences, " + asked + " answers, " + wrong + " wrong");
        if (wrong > 0) {
            System.exit(1);
        }
    }

    /** Types a text; how many bytes it has then. */
    static int type(LightKeepers x, String text) {
        int length = x.count(5);
        for (char c : text.toCharArray()) {
            length = x.type(c);
        }
        return length;
    }

    /** A new object with a coast as a text tells it. */
    static LightKeepers coast(String text) {
        LightKeepers x = new LightKeepers();
        again(x, text);
        return x;
    }

    /** The coast is told anew. */
    static void again(LightKeepers x, String text) {
        x.clear();
        type(x, text);
        if (x.coast() < 0) {
            throw new IllegalStateException("the test's text has a fault: " + text);
        }
    }

    /** A new object with a coast as a text tells it, and moons by changes. */
    static LightKeepers after(String text, int... changes) {
        LightKeepers x = coast(text);
        for (int change : changes) {
            if (x.moon(change) < 0) {
                throw new IllegalStateException("the test's moon is refused: " + text + " " + change);
            }
        }
        return x;
    }

    /** What coast() answers to a text on a new object. */
    static int read(String text) {
        LightKeepers x = new LightKeepers();
        type(x, text);
        return x.coast();
    }

    /** An object in which there is something of all: four rocks, 0312 at them at moon 2. */
    static LightKeepers busy() {
        LightKeepers x = coast("k1;k2;k3;k1;h0 1;s2;");
        x.moon(4);
        x.keep(1);
        x.puts(3, 1);
        x.saw(0, 1);
        x.mark(5, 2);
        x.moon(2);
        x.puts(2, 1);
        x.saw(3, 2);
        type(x, "k4;k");
        return x;
    }
}
