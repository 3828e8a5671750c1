/** What the tests have in common: telling of wrong answers, and texts. */
final class Check {
    private int wrong = 0;
    private int asked = 0;

    void due(String call, long want, long got) {
        asked++;
        if (got != want) {
            wrong++;
            System.out.println(call + " answered " + got + ", due is " + want);
        }
    }

    /** Types a text; how many bytes it has then. */
    static int type(LightKeepers x, String text) {
        int length = x.count(5);
        for (char c : text.toCharArray()) {
            length = x.type(c);
        }
        return length;
    }

    /** A new object with a coast as a text tells it. */
    static LightKeepers coast(String text) {
        LightKeepers x = new LightKeepers();
        type(x, text);
        int items = x.coast();
        if (items < 0) {
            throw new IllegalStateException("the test's text has a fault: " + text + ": " + items);
        }
        return x;
    }

    /** What coast() answers to a text on a new object. */
    static int read(String text) {
        LightKeepers x = new LightKeepers();
        type(x, text);
        return x.coast();
    }

    /** Who is at the rocks, as digits. */
    static String who(LightKeepers x) {
        StringBuilder row = new StringBuilder();
        for (int r = 0; r < x.count(0); r++) {
            row.append(x.rock(r));
        }
        return row.toString();
    }

    void dueWho(String after, String want, LightKeepers x) {
        asked++;
        String got = who(x);
        if (!got.equals(want)) {
            wrong++;
            System.out.println("who is where after " + after + " is " + got + ", due is " + want);
        }
    }

    void end() {
        System.out.println(asked + " answers, " + wrong + " wrong");
        if (wrong > 0) {
            System.exit(1);
        }
    }
}
