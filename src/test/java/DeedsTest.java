/** Promises 7 to 10: moon, puts, undo, now. */
public final class DeedsTest {
    private static final Check check = new Check();

    public static void main(String[] args) {
        promise7MoonChanges();
        promise7MoonRefused();
        promise7MoonNinetyNine();
        promise8Puts();
        promise9Undo();
        promise9UndoForgetsOlder();
        promise9UndoLeavesTheRest();
        promise10Now();
        promise10Likes();
        promise10Calm();
        check.end();
    }

    private static void promise7MoonChanges() {
        LightKeepers x = Check.coast("k1;k2;k3;k4;k5;k6;");
        check.due("moon(0)", 0, x.moon(0));
        check.dueWho("moon(0)", "012345", x);
        check.due("moon(21)", 6, x.moon(21));
        check.dueWho("moon(21)", "103254", x);
        check.due("moon(10)", 4, x.moon(10));
        check.dueWho("moon(10)", "130524", x);
        check.due("moon(16)", 2, x.moon(16));
        check.dueWho("moon(16)", "130542", x);
        check.due("now(0)", 4, x.now(0));
        check.due("now(1)", 84, x.now(1));
        x.puts(5, 1);
        x.moon(1);
        check.due("now(1), one is out", 99, x.now(1));
    }

    private static void promise7MoonRefused() {
        LightKeepers x = Check.coast("k1;k2;k3;k4;h2 0;h1 3;");
        int[] bad = {-1, 8, 16, Integer.MIN_VALUE, Integer.MAX_VALUE};
        for (int change : bad) {
            check.due("moon(" + change + ")", -1, x.moon(change));
        }
        int[] twice = {3, 6, 7};
        for (int change : twice) {
            check.due("moon(" + change + ")", -2, x.moon(change));
        }
        check.due("refused: now(0)", 0, x.now(0));
        check.due("refused: count(4)", 0, x.count(4));
        check.due("moon(5)", 4, x.moon(5));
        check.dueWho("moon(5)", "1032", x);
        check.due("haters later: moon(2)", 2, Check.coast("k1;k2;k3;k4;h2 0;h1 3;").moon(2));
        check.due("now at rocks 1, 2: 0, 3, moon(2)", 2, x.moon(2));
        check.dueWho("moon(2)", "1302", x);
        check.due("1 hates 3", -2, x.moon(1));
        check.due("0 is hated by 2", -2, x.moon(4));
        check.due("both", -2, x.moon(5));
        check.dueWho("refused moons", "1302", x);
        check.due("one rock: moon(1)", -1, Check.coast("k1;").moon(1));
        check.due("one rock: moon(0)", 0, Check.coast("k1;").moon(0));
        check.due("two rocks: moon(1)", 2, Check.coast("k1;k1;").moon(1));
        check.due("two rocks: moon(2)", -1, Check.coast("k1;k1;").moon(2));
    }

    private static void promise7MoonNinetyNine() {
        LightKeepers x = Check.coast("k9;k8;");
        for (int i = 1; i <= 99; i++) {
            check.due("moon(1), the " + i + "th", 2, x.moon(1));
        }
        check.due("now(0)", 99, x.now(0));
        check.due("now(1)", 99 * 17, x.now(1));
        check.due("moon(1) at 99", -2, x.moon(1));
        check.due("moon(0) at 99", -2, x.moon(0));
        check.due("moon(2) at 99", -1, x.moon(2));
        check.dueWho("99 moons", "10", x);
        check.due("homeward at 99", 1, x.homeward(0, 0));
        check.due("undo() at 99", 9, x.undo());
        check.due("moon(0) at 98", 0, x.moon(0));
    }

    private static void promise8Puts() {
        LightKeepers x = Check.coast("k1;k2;k3;");
        check.due("puts(-1, 1)", -1, x.puts(-1, 1));
        check.due("puts(3, 1)", -1, x.puts(3, 1));
        check.due("puts(0, 2)", -1, x.puts(0, 2));
        check.due("puts(0, -1)", -1, x.puts(0, -1));
        check.due("puts(0, 0)", -2, x.puts(0, 0));
        check.due("puts(0, 1)", 1, x.puts(0, 1));
        check.due("puts(0, 1) again", -2, x.puts(0, 1));
        check.due("puts(2, 1)", 2, x.puts(2, 1));
        check.due("now(2)", 5, x.now(2));
        check.due("count(4)", 2, x.count(4));
        x.moon(1);
        check.due("it goes with him: keeper(0, 3)", 1, x.keeper(0, 3));
        check.due("it goes with him: now(2)", 5, x.now(2));
        check.due("puts(0, 0)", 1, x.puts(0, 0));
        check.due("now(2) after", 4, x.now(2));
    }

    private static void promise9Undo() {
        LightKeepers x = Check.coast("k1;k2;k3;");
        check.due("undo() of none", -2, x.undo());
        x.moon(1);
        x.puts(1, 1);
        x.moon(2);
        x.puts(1, 0);
        x.moon(0);
        check.due("now(1)", 6 + 4 + 6, x.now(1));
        check.due("undo() of a moon", 4, x.undo());
        check.due("now(0)", 2, x.now(0));
        check.due("now(1)", 10, x.now(1));
        check.due("undo() of puts", 3, x.undo());
        check.due("now(2)", 2, x.now(2));
        check.dueWho("two undone", "120", x);
        check.due("undo() of a moon", 2, x.undo());
        check.dueWho("three undone", "102", x);
        check.due("now(1)", 6, x.now(1));
        check.due("undo() of puts", 1, x.undo());
        check.due("now(2)", 0, x.now(2));
        check.due("undo() of the first", 0, x.undo());
        check.dueWho("all undone", "012", x);
        check.due("now(0)", 0, x.now(0));
        check.due("now(1)", 0, x.now(1));
        check.due("undo() of none", -2, x.undo());
    }

    private static void promise9UndoForgetsOlder() {
        LightKeepers x = Check.coast("k1;k2;k3;");
        for (int i = 0; i < 12; i++) {
            x.moon(1 + i % 2);
        }
        check.due("count(4)", 10, x.count(4));
        for (int left = 9; left >= 0; left--) {
            check.due("undo()", left, x.undo());
            check.due("now(0), " + left + " left", 2 + left, x.now(0));
            check.due("now(1), " + left + " left", 6 * (2 + left), x.now(1));
        }
        check.due("undo() of a lost one", -2, x.undo());
        check.due("now(0)", 2, x.now(0));
        check.due("now(1)", 12, x.now(1));
        check.dueWho("ten undone of twelve", "120", x);
    }

    private static void promise9UndoLeavesTheRest() {
        LightKeepers x = Check.coast("k1;k2;k3;");
        x.moon(1);
        x.saw(0, 1);
        x.keep(0);
        x.mark(0, 0);
        Check.type(x, "k");
        check.due("undo()", 0, x.undo());
        check.due("count(3) after undo()", 1, x.count(3));
        check.due("count(5) after undo()", 1, x.count(5));
        check.due("trace() after undo()", 1, x.trace());
        check.due("back(0) after undo()", 1, x.back(0));
        check.due("back() is not undone", 0, x.undo());
        check.due("back() is not undone: now(0)", 0, x.now(0));
    }

    private static void promise10Now() {
        LightKeepers x = Check.coast("k1;k2;k3;k4;");
        check.due("now(-1)", -1, x.now(-1));
        check.due("now(6)", -1, x.now(6));
        x.moon(5);
        x.moon(2);
        x.puts(3, 1);
        x.puts(0, 1);
        x.moon(0);
        check.dueWho("moons 5, 2, 0", "1302", x);
        check.due("now(0)", 3, x.now(0));
        check.due("now(1)", 25, x.now(1));
        check.due("now(2)", 9, x.now(2));
        check.due("now(3)", 0, x.now(3));
        check.due("now(4)", 2 + 1 + 1 + 2, x.now(4));
    }

    private static void promise10Likes() {
        check.due("likes, sight 0", 0, Check.coast("k1;k1;k1;s0;").now(3));
        check.due("likes, sight 1", 2, Check.coast("k1;k1;k1;s1;").now(3));
        check.due("likes, sight 2", 3, Check.coast("k1;k1;k1;s2;").now(3));
        check.due("likes, sight 5 of three", 3, Check.coast("k1;k1;k1;s5;").now(3));
        check.due("likes, sight 5 of six", 15, Check.coast("k1;k1;k1;k1;k1;k1;s5;").now(3));
        check.due("likes, sight 4 of six", 14, Check.coast("k1;k1;k1;k1;k1;k1;s4;").now(3));
        check.due("likes, two flashes", 3, Check.coast("k1;k2;k1;k2;k1;s2;").now(3));
        LightKeepers x = Check.coast("k1;k1;");
        x.puts(0, 1);
        check.due("likes, one is out", 1, x.now(3));
    }

    private static void promise10Calm() {
        check.due("calm: most change", 21, Check.coast("k1;k2;k3;k4;k5;k6;").now(5));
        check.due("calm: least bits", 5, Check.coast("k1;k2;k3;k4;k5;").now(5));
        check.due("calm: fewest likes first", 2, Check.coast("k1;k1;k2;k2;").now(5));
        check.due("calm: all alike", 5, Check.coast("k3;k3;k3;k3;").now(5));
        check.due("calm: haters", 9, Check.coast("k1;k2;k3;k4;k5;h2 3;h1 2;").now(5));
        check.due("calm: none but 0", 0, Check.coast("k1;k2;h0 1;").now(5));
        check.due("calm: 0 is calmest", 0, Check.coast("k1;k2;k1;").now(5));
        LightKeepers x = Check.coast("k1;k1;k2;");
        check.due("calm", 2, x.now(5));
        check.dueWho("calm", "012", x);
        x.moon(2);
        check.due("calm after it", 0, x.now(5));
    }
}
