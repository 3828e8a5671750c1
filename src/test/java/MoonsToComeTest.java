/** Promises 11 and 12: homeward, trade. */
public final class MoonsToComeTest {
    private static final Check check = new Check();

    public static void main(String[] args) {
        promise11HomewardAtHome();
        promise11HomewardFewest();
        promise11HomewardLeastChange();
        promise11HomewardSafe();
        promise11HomewardRefused();
        promise12Trade();
        promise12TradeOfHaters();
        promise12TradeSafe();
        promise12TradeRefused();
        askedAgain();
        nothingIsChanged();
        check.end();
    }

    private static LightKeepers after(String text, int... changes) {
        LightKeepers x = Check.coast(text);
        for (int change : changes) {
            if (x.moon(change) < 0) {
                throw new IllegalStateException("the test's moon is refused: " + text + " " + change);
            }
        }
        return x;
    }

    private static void homeward(String name, LightKeepers x, int safe, int moons, int change) {
        check.due(name + ": homeward(" + safe + ", 0)", moons, x.homeward(safe, 0));
        check.due(name + ": homeward(" + safe + ", 1)", change, x.homeward(safe, 1));
    }

    private static void promise11HomewardAtHome() {
        homeward("none", new LightKeepers(), 0, 0, -9);
        homeward("one", Check.coast("k1;"), 1, 0, -9);
        homeward("at home", Check.coast("k1;k2;"), 0, 0, -9);
        homeward("at home, likes", Check.coast("k1;k1;"), 1, 0, -9);
        homeward("home again", after("k1;k2;", 1, 1), 0, 0, -9);
    }

    private static void promise11HomewardFewest() {
        homeward("one moon", after("k1;k2;k3;", 2), 0, 1, 2);
        homeward("two at once", after("k1;k2;k3;k4;", 1, 4), 0, 1, 5);
        homeward("round", after("k1;k2;k3;", 1, 2), 0, 2, 2);
        homeward("round the other way", after("k1;k2;k3;", 2, 1), 0, 2, 1);
        homeward("one goes home far", after("k1;k2;k3;k4;k5;k6;", 1, 2, 4, 8, 16), 0, 5, 16);
        homeward("six turned round", after("k1;k2;k3;k4;k5;k6;", 21, 10, 21, 10, 21), 0, 5, 21);
        homeward("haters", after("k1;k2;k3;h0 2;", 1), 0, 1, 1);
        LightKeepers x = after("k1;k2;k3;", 1, 2);
        x.puts(0, 1);
        x.puts(1, 1);
        homeward("some are out", x, 0, 2, 2);
        homeward("some are out", x, 1, 2, 2);
    }

    private static void promise11HomewardLeastChange() {
        homeward("three turned round", after("k1;k2;k3;", 1, 2, 1), 0, 3, 1);
        homeward("by 21 or by 10", after("k1;k2;k3;k4;k5;k6;", 21, 10, 21, 10, 21, 10), 0, 6, 10);
        // 1 at once with the first of the two others, or later with the other one
        homeward("one of two is enough at first", after("k1;k2;k3;k4;k5;", 4, 8, 1), 0, 2, 8);
    }

    private static void promise11HomewardSafe() {
        // 0231: the short way home leads over 0213, where 0 and 2 have likes
        LightKeepers round = after("k1;k2;k1;k3;", 2, 4);
        homeward("the short way", round, 0, 2, 4);
        homeward("round the likes", round, 1, 4, 2);
        homeward("now has likes", after("k1;k2;k1;k2;h0 3;", 2), 1, 1, 2);
        homeward("home has likes", after("k1;k1;k2;", 2), 1, -9, -9);
        homeward("home has likes, whatever", after("k1;k1;k2;", 2), 0, 1, 2);
        homeward("home has likes, sight 2", after("k1;k2;k1;s2;", 1), 1, -9, -9);
        homeward("home has none, sight 0", after("k1;k1;s0;", 1), 1, 1, 1);
        homeward("between are likes", after("k1;k2;k1;k2;h0 3;", 2, 5), 1, -9, -9);
        LightKeepers out = after("k1;k1;k2;", 2);
        out.puts(0, 1);
        homeward("likes of one who is out", out, 1, -9, -9);
    }

    private static void promise11HomewardRefused() {
        LightKeepers x = after("k1;k2;", 1);
        int[] bad = {-1, 2, Integer.MIN_VALUE, Integer.MAX_VALUE};
        for (int number : bad) {
            check.due("homeward(" + number + ", 0)", -1, x.homeward(number, 0));
            check.due("homeward(0, " + number + ")", -1, x.homeward(0, number));
            check.due("homeward(" + number + ", " + number + ")", -1, x.homeward(number, number));
        }
    }

    private static void trade(String name, LightKeepers x, int k, int l, int safe, int moons) {
        check.due(name + ": trade(" + k + ", " + l + ", " + safe + ")", moons, x.trade(k, l, safe));
        check.due(name + ": trade(" + l + ", " + k + ", " + safe + ")", moons, x.trade(l, k, safe));
    }

    private static void promise12Trade() {
        LightKeepers x = Check.coast("k1;k2;k3;k4;k5;k6;");
        // two an even way apart can't both go on at every moon
        int[] moons = {1, 3, 3, 5, 5};
        for (int l = 1; l <= 5; l++) {
            trade("at home", x, 0, l, 0, moons[l - 1]);
        }
        trade("neighbours", x, 3, 4, 0, 1);
        trade("like flashes", Check.coast("k1;k1;"), 0, 1, 0, 1);
        LightKeepers moved = after("k1;k2;k3;k4;", 1, 2);
        check.dueWho("1, 2", "1203", moved);
        trade("where they are now", moved, 0, 3, 0, 1);
        trade("where they are now", moved, 1, 0, 0, 3);
        trade("where they are now", moved, 1, 2, 0, 1);
    }

    private static void promise12TradeOfHaters() {
        trade("they hate", Check.coast("k1;k2;h0 1;"), 0, 1, 0, -9);
        trade("one between is hated", Check.coast("k1;k2;k3;h1 0;"), 0, 2, 0, -9);
        trade("one beside is hated", Check.coast("k1;k2;k3;h2 0;"), 0, 1, 0, 1);
        LightKeepers behind = after("k1;k2;k3;h0 1;", 2);
        check.dueWho("2", "021", behind);
        trade("no longer between", behind, 0, 2, 0, 1);
        LightKeepers four = Check.coast("k1;k2;k3;k4;h0 1;");
        trade("the hated goes on ahead", four, 0, 2, 0, 3);
    }

    private static void promise12TradeSafe() {
        trade("no likes", Check.coast("k1;k2;"), 0, 1, 1, 1);
        trade("likes", Check.coast("k1;k1;"), 0, 1, 1, -9);
        trade("likes out of sight", Check.coast("k1;k1;s0;"), 0, 1, 1, 1);
        // 1032: 2 goes out of sight of 0 as these two change
        trade("others go as well", Check.coast("k1;k2;k1;k3;"), 0, 1, 1, 1);
        trade("others can't go", Check.coast("k1;k2;k1;k3;h2 3;"), 0, 1, 1, -9);
        trade("others can't go, whatever", Check.coast("k1;k2;k1;k3;h2 3;"), 0, 1, 0, 1);
        trade("now has likes", Check.coast("k1;k1;k2;"), 1, 2, 1, 1);
        trade("the last one has likes", Check.coast("k1;k1;k2;"), 0, 2, 1, -9);
        trade("the last one has likes, whatever", Check.coast("k1;k1;k2;"), 0, 2, 0, 3);
    }

    private static void promise12TradeRefused() {
        LightKeepers x = Check.coast("k1;k2;k3;");
        check.due("trade(0, 0, 0)", -1, x.trade(0, 0, 0));
        check.due("trade(2, 2, 1)", -1, x.trade(2, 2, 1));
        check.due("trade(-1, 0, 0)", -1, x.trade(-1, 0, 0));
        check.due("trade(0, -1, 0)", -1, x.trade(0, -1, 0));
        check.due("trade(3, 0, 0)", -1, x.trade(3, 0, 0));
        check.due("trade(0, 3, 0)", -1, x.trade(0, 3, 0));
        check.due("trade(0, 1, -1)", -1, x.trade(0, 1, -1));
        check.due("trade(0, 1, 2)", -1, x.trade(0, 1, 2));
        check.due("one: trade(0, 0, 0)", -1, Check.coast("k1;").trade(0, 0, 0));
    }

    /** What was searched for must not be answered again, when all has changed since. */
    private static void askedAgain() {
        LightKeepers x = Check.coast("k1;k2;k3;");
        homeward("at first", x, 0, 0, -9);
        x.moon(1);
        homeward("after a moon", x, 0, 1, 1);
        x.keep(0);
        x.moon(2);
        homeward("after two", x, 0, 2, 2);
        x.back(0);
        homeward("as the image has it", x, 0, 1, 1);
        x.undo();
        homeward("undone", x, 0, 0, -9);
        trade("ahead of a text", x, 0, 1, 0, 1);
        trade("ahead of a text", x, 0, 1, 1, 1);
        Check.type(x, "k1;k2;k1;h0 1;");
        x.coast();
        trade("after a text", x, 0, 1, 0, -9);
        trade("after a text", x, 1, 2, 1, -9);
        Check.type(x, "k1;k1;k1;s0;");
        x.coast();
        trade("after another", x, 1, 2, 1, 1);
        Check.type(x, "k1;k1;k1;");
        x.coast();
        trade("after another, sight 1", x, 1, 2, 1, -9);
    }

    private static void nothingIsChanged() {
        LightKeepers x = after("k1;k2;k3;k4;", 1, 2);
        x.puts(1, 1);
        x.homeward(0, 1);
        x.homeward(1, 0);
        x.trade(0, 1, 0);
        check.dueWho("searches", "1203", x);
        check.due("now(0)", 2, x.now(0));
        check.due("now(1)", 20, x.now(1));
        check.due("now(2)", 2, x.now(2));
        check.due("count(4)", 3, x.count(4));
        check.due("trace()", 0, x.trace());
    }
}
