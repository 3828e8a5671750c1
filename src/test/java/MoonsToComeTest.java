/** The document's part 3 and promises 11 and 12: homeward, trade. */
public final class MoonsToComeTest {
    private static final String SIX = "k1;k2;k3;k4;k5;k6;";
    private static final Check check = new Check();

    public static void main(String[] args) {
        check.all(MoonsToComeTest.class);
    }

    private static void homeward(LightKeepers x, int safe, int moons, int change) {
        String state = Probe.who(x);
        check.due(state + ": homeward(" + safe + ", 0)", moons, x.homeward(safe, 0));
        check.due(state + ": homeward(" + safe + ", 1)", change, x.homeward(safe, 1));
    }

    private static void trade(LightKeepers x, int k, int l, int safe, int moons) {
        String state = Probe.who(x);
        check.due(state + ": trade(" + k + ", " + l + ", " + safe + ")", moons, x.trade(k, l, safe));
        check.due(state + ": trade(" + l + ", " + k + ", " + safe + ")", moons, x.trade(l, k, safe));
    }

    private static void nothingIsChanged() {
        check.of("(Nothing is changed): homeward, trade");
        for (int safe = 0; safe <= 1; safe++) {
            int asked = safe;
            int moons = Check.busy().homeward(safe, 0);
            int change = Check.busy().homeward(safe, 1);
            check.changesNothing("homeward(" + safe + ", 0)", moons, Check::busy, x -> x.homeward(asked, 0));
            check.changesNothing("homeward(" + safe + ", 1)", change, Check::busy, x -> x.homeward(asked, 1));
            int trade = Check.busy().trade(1, 3, safe);
            check.changesNothing("trade(1, 3, " + safe + ")", trade, Check::busy, x -> x.trade(1, 3, asked));
        }
    }

    private static void outDoesNotMatter() {
        check.of("(OUT does not matter but where it is told): homeward, trade");
        LightKeepers x = Check.after("k1;k2;k1;k3;", 2, 4);
        for (int k = 0; k <= 3; k++) {
            x.puts(k, 1);
            homeward(x, 0, 2, 4);
            homeward(x, 1, 4, 2);
            trade(x, 0, 1, 0, 3);
            trade(x, 2, 3, 1, 1);
        }
        LightKeepers likes = Check.after("k1;k1;k2;", 2);
        likes.puts(0, 1);
        likes.puts(1, 1);
        homeward(likes, 1, -9, -9);
    }

    private static void homewardFewest() {
        check.of("HOMEWARD: the fewest MOONS by which all are at HOME");
        homeward(Check.after("k1;k2;k3;", 2), 0, 1, 2);
        homeward(Check.after("k1;k2;k3;k4;", 1, 4), 0, 1, 5);
        homeward(Check.after("k1;k2;k3;", 1, 2), 0, 2, 2);
        homeward(Check.after("k1;k2;k3;", 1, 2, 1), 0, 3, 1);
        homeward(Check.after(SIX, 1, 2, 4, 8, 16), 0, 5, 16);
        homeward(Check.after(SIX, 21, 10, 21, 10, 21), 0, 5, 21);
        homeward(Check.after(SIX, 21, 10, 21, 10, 21, 10), 0, 6, 10);
        homeward(Check.after("k1;k2;k3;", 1, 0, 0, 0), 0, 1, 1);
    }

    private static void homewardNobodyHates() {
        check.of("HOMEWARD: MOONS by CHANGES, none who HATE each other");
        homeward(Check.after("k1;k2;k3;h1 2;", 1), 0, 1, 1);
        // home round the likes 2 and 3 would change twice
        homeward(Check.after("k1;k2;k1;k3;", 2, 4), 1, 4, 2);
        homeward(Check.after("k1;k2;k1;k3;h2 3;", 2, 4), 1, -9, -9);
        homeward(Check.after("k1;k2;k1;k3;h3 2;", 2, 4), 1, -9, -9);
        homeward(Check.after("k1;k2;k1;k3;h2 3;", 2, 4), 0, 2, 4);
    }

    private static void homewardWhatever() {
        check.of("HOMEWARD: or whatever (0)");
        homeward(Check.after("k1;k1;k2;", 2), 0, 1, 2);
        homeward(Check.after("k1;k2;k1;k3;", 2, 4), 0, 2, 4);
        homeward(Check.after("k1;k1;k1;s5;", 1), 0, 1, 1);
    }

    private static void homewardNoLikesAtTheEnds() {
        check.of("HOMEWARD: none with LIKES at its end (safe 1)");
        // 0231: the short way home leads over 0213, where 0 and 2 have likes
        homeward(Check.after("k1;k2;k1;k3;", 2, 4), 1, 4, 2);
        homeward(Check.after("k1;k2;k1;k2;h0 3;", 2, 5), 1, -9, -9);
        homeward(Check.after("k1;k2;k3;", 1, 2), 1, 2, 2);
    }

    private static void homewardNoLikesAtTheLast() {
        check.of("HOMEWARD: none with LIKES at its end (the last one, too; safe 1)");
        homeward(Check.after("k1;k1;k2;", 2), 1, -9, -9);
        homeward(Check.after("k1;k2;k1;s2;", 1), 1, -9, -9);
        homeward(Check.after("k1;k2;k1;", 1), 1, 1, 1);
        homeward(Check.after("k1;k1;s0;", 1), 1, 1, 1);
    }

    private static void homewardNowDoesNotMatter() {
        check.of("HOMEWARD: NOW does not matter");
        LightKeepers x = Check.after("k1;k2;k1;k2;h0 3;", 2);
        check.due("likes now", 2, x.now(3));
        homeward(x, 1, 1, 2);
        homeward(Check.coast("k1;k1;"), 1, 0, -9);
    }

    private static void homewardAllThere() {
        check.of("HOMEWARD: how many (0: all are there already)");
        for (int safe = 0; safe <= 1; safe++) {
            check.due("no keepers", 0, new LightKeepers().homeward(safe, 0));
            check.due("one", 0, Check.coast("k1;").homeward(safe, 0));
            check.due("six", 0, Check.coast(SIX).homeward(safe, 0));
            check.due("six, after moons", 0, Check.after(SIX, 21, 21, 0).homeward(safe, 0));
            check.due("six with likes", 0, Check.coast("k1;k1;k1;k1;k1;k1;").homeward(safe, 0));
            check.due("haters", 0, Check.coast("k1;k2;h0 1;").homeward(safe, 0));
        }
    }

    private static void homewardFirst() {
        check.of("HOMEWARD: the CHANGE of the first of them");
        LightKeepers x = Check.after(SIX, 2, 21, 8, 5, 10, 1);
        int moons = x.homeward(0, 0);
        for (int left = moons - 1; left >= 0; left--) {
            x.moon(x.homeward(0, 1));
            check.due("after the first: homeward(0, 0)", left, x.homeward(0, 0));
        }
        check.dueWho("all the first ones", "012345", x);
        LightKeepers safe = Check.after("k1;k2;k1;k3;", 2, 4);
        for (int left = 3; left >= 0; left--) {
            safe.moon(safe.homeward(1, 1));
            check.due("after the first: now(3)", 0, safe.now(3));
            check.due("after the first: homeward(1, 0)", left, safe.homeward(1, 0));
        }
    }

    private static void homewardLeastBits() {
        check.of("HOMEWARD: the least (bits) of such by which it is so");
        // the first may be 5, 8 or 9
        homeward(Check.after("k1;k2;k3;k4;k5;", 2, 4, 10, 5), 0, 4, 5);
        // 8 is needed at once, 1 then or later
        homeward(Check.after("k1;k2;k3;k4;k5;", 4, 8, 1), 0, 2, 8);
        homeward(Check.after(SIX, 21, 10, 21, 10, 21, 10), 0, 6, 10);
        homeward(Check.after(SIX, 21, 10, 21, 10, 21, 10), 1, 6, 10);
    }

    private static void homewardNever() {
        check.of("HOMEWARD: NONE (never)");
        LightKeepers x = Check.after("k1;k1;k2;", 2);
        check.due("homeward(1, 0)", -9, x.homeward(1, 0));
        check.due("homeward(1, 1)", -9, x.homeward(1, 1));
        LightKeepers all = Check.after("k1;k1;k1;k1;k1;k1;", 1);
        check.due("all alike: homeward(1, 0)", -9, all.homeward(1, 0));
        check.due("all alike: homeward(0, 0)", 1, all.homeward(0, 0));
    }

    private static void homewardFirstAllThere() {
        check.of("HOMEWARD: NONE (for the CHANGE all there already, too)");
        for (int safe = 0; safe <= 1; safe++) {
            check.due("no keepers", -9, new LightKeepers().homeward(safe, 1));
            check.due("one", -9, Check.coast("k1;").homeward(safe, 1));
            check.due("six", -9, Check.coast(SIX).homeward(safe, 1));
            check.due("six, after moons", -9, Check.after(SIX, 10, 10).homeward(safe, 1));
        }
    }

    private static void homewardBad() {
        check.of("homeward: BAD (safe: 0, 1; what: 0, 1)");
        for (int bad : new int[] {-1, 2, 3, 256, Integer.MIN_VALUE, Integer.MAX_VALUE}) {
            check.changesNothing("homeward(" + bad + ", 0)", -1, Check::busy, x -> x.homeward(bad, 0));
            check.changesNothing("homeward(" + bad + ", 1)", -1, Check::busy, x -> x.homeward(bad, 1));
            check.changesNothing("homeward(0, " + bad + ")", -1, Check::busy, x -> x.homeward(0, bad));
            check.changesNothing("homeward(1, " + bad + ")", -1, Check::busy, x -> x.homeward(1, bad));
            check.due("no keepers: homeward(" + bad + ", 0)", -1, new LightKeepers().homeward(bad, 0));
            check.due("never: homeward(1, " + bad + ")", -1, Check.after("k1;k1;k2;", 2).homeward(1, bad));
        }
    }

    private static void homewardAtMoon99() {
        check.of("HOMEWARD, TRADE: as many MOONS as it takes, whatever MOON it is");
        LightKeepers x = Check.coast("k1;k2;k3;");
        for (int i = 0; i < 97; i++) {
            x.moon(0);
        }
        x.moon(1);
        x.moon(2);
        check.due("now(0)", 99, x.now(0));
        homeward(x, 0, 2, 2);
        trade(x, 0, 1, 0, 3);
    }

    private static void tradeFewest() {
        check.of("TRADE: the fewest MOONS by which each is where the other one is");
        // two an even way apart can't both go on at every moon
        int[] moons = {1, 3, 3, 5, 5};
        for (int l = 1; l <= 5; l++) {
            trade(Check.coast(SIX), 0, l, 0, moons[l - 1]);
        }
        trade(Check.coast("k1;k2;"), 0, 1, 0, 1);
        trade(Check.coast(SIX), 3, 4, 0, 1);
    }

    private static void tradeWhereNow() {
        check.of("TRADE: where the other one is NOW");
        LightKeepers x = Check.after("k1;k2;k3;k4;", 1, 2);
        check.dueWho("1, 2", "1203", x);
        trade(x, 0, 3, 0, 1);
        trade(x, 0, 1, 0, 3);
        trade(x, 1, 2, 0, 1);
        trade(x, 2, 3, 0, 3);
    }

    private static void tradeOthersWherever() {
        check.of("TRADE: others wherever");
        // 0 and 1 can't pass each other, so that 1 ends at rock 3
        trade(Check.coast("k1;k2;k3;k4;h0 1;"), 0, 2, 0, 3);
        trade(Check.coast("k1;k2;k3;k4;h0 1;h2 1;"), 0, 2, 0, -9);
        trade(Check.coast("k1;k2;k1;k3;"), 0, 1, 1, 1);
    }

    private static void tradeHaters() {
        check.of("TRADE: MOONS by CHANGES, none who HATE each other");
        trade(Check.coast("k1;k2;h0 1;"), 0, 1, 0, -9);
        trade(Check.coast("k1;k2;h1 0;"), 0, 1, 0, -9);
        trade(Check.coast("k1;k2;k3;h1 0;"), 0, 2, 0, -9);
        trade(Check.coast("k1;k2;k3;h2 0;"), 0, 1, 0, 1);
        trade(Check.after("k1;k2;k3;h0 1;", 2), 0, 2, 0, 1);
    }

    private static void tradeSafe() {
        check.of("TRADE (safe likewise): none with LIKES at its end");
        trade(Check.coast("k1;k2;"), 0, 1, 1, 1);
        // 1032: 2 goes out of sight of 0 as these two change
        trade(Check.coast("k1;k2;k1;k3;"), 0, 1, 1, 1);
        trade(Check.coast("k1;k2;k1;k3;h2 3;"), 0, 1, 1, -9);
        trade(Check.coast("k1;k2;k1;k3;h2 3;"), 0, 1, 0, 1);
        trade(Check.coast("k1;k1;s0;"), 0, 1, 1, 1);
    }

    private static void tradeSafeLast() {
        check.of("TRADE (safe likewise): the last one, too");
        trade(Check.coast("k1;k1;"), 0, 1, 1, -9);
        trade(Check.coast("k1;k1;k2;"), 0, 2, 1, -9);
        trade(Check.coast("k1;k1;k2;"), 0, 2, 0, 3);
    }

    private static void tradeSafeNow() {
        check.of("TRADE (safe likewise): NOW does not matter");
        LightKeepers x = Check.coast("k1;k1;k2;");
        check.due("likes now", 1, x.now(3));
        trade(x, 1, 2, 1, 1);
    }

    private static void tradeNone() {
        check.of("TRADE: how many; NONE");
        trade(Check.coast("k1;k2;h0 1;"), 0, 1, 0, -9);
        trade(Check.coast("k1;k2;k3;h0 1;h0 2;h1 2;"), 0, 2, 1, -9);
        trade(Check.coast("k1;k1;k1;k1;k1;k1;"), 0, 5, 1, -9);
        trade(Check.coast("k1;k1;k1;k1;k1;k1;"), 0, 5, 0, 5);
    }

    private static void tradeBad() {
        check.of("trade: BAD");
        for (int bad : new int[] {-1, 4, 5, 6, 32, 256, Integer.MIN_VALUE, Integer.MAX_VALUE}) {
            check.changesNothing("trade(" + bad + ", 0, 0)", -1, Check::busy, x -> x.trade(bad, 0, 0));
            check.changesNothing("trade(0, " + bad + ", 1)", -1, Check::busy, x -> x.trade(0, bad, 1));
        }
        for (int bad : new int[] {-1, 2, 3, 256, Integer.MIN_VALUE, Integer.MAX_VALUE}) {
            check.changesNothing("trade(0, 3, " + bad + ")", -1, Check::busy, x -> x.trade(0, 3, bad));
        }
        check.due("no keepers: trade(0, 1, 0)", -1, new LightKeepers().trade(0, 1, 0));
        check.due("one keeper: trade(0, 1, 0)", -1, Check.coast("k1;").trade(0, 1, 0));
    }

    private static void tradeAlikeOnes() {
        check.of("trade: TRADE of two unlike KEEPERS; BAD (alike ones, too)");
        for (int k = 0; k <= 3; k++) {
            int both = k;
            String call = "trade(" + k + ", " + k + ", ";
            check.changesNothing(call + "0)", -1, Check::busy, x -> x.trade(both, both, 0));
            check.changesNothing(call + "1)", -1, Check::busy, x -> x.trade(both, both, 1));
        }
        check.due("one keeper: trade(0, 0, 0)", -1, Check.coast("k1;").trade(0, 0, 0));
        check.due("two of like flashes: trade(0, 1, 0)", 1, Check.coast("k1;k1;").trade(0, 1, 0));
    }

    /** What was searched for must not be answered again, when all has changed since. */
    private static void askedAgain() {
        check.of("HOMEWARD, TRADE: by who is where NOW");
        LightKeepers x = Check.coast("k1;k2;k3;");
        homeward(x, 0, 0, -9);
        x.moon(1);
        homeward(x, 0, 1, 1);
        x.keep(0);
        x.moon(2);
        homeward(x, 0, 2, 2);
        trade(x, 0, 1, 0, 3);
        x.back(0);
        homeward(x, 0, 1, 1);
        trade(x, 0, 1, 0, 1);
        x.undo();
        homeward(x, 0, 0, -9);
        homeward(x, 1, 0, -9);
        x.puts(0, 1);
        x.undo();
        homeward(x, 1, 0, -9);
    }

    private static void askedAgainOfAnotherCoast() {
        check.of("HOMEWARD, TRADE: by what is told now");
        LightKeepers x = Check.coast("k1;k2;k3;");
        trade(x, 0, 1, 0, 1);
        trade(x, 0, 1, 1, 1);
        Check.again(x, "k1;k2;k1;h0 1;");
        trade(x, 0, 1, 0, -9);
        trade(x, 1, 2, 1, -9);
        Check.again(x, "k1;k1;k1;s0;");
        trade(x, 1, 2, 1, 1);
        Check.again(x, "k1;k1;k1;");
        trade(x, 1, 2, 1, -9);
        Check.again(x, SIX);
        trade(x, 0, 5, 1, 5);
        Check.again(x, "k1;k2;");
        trade(x, 0, 1, 1, 1);
        Check.again(x, SIX);
        trade(x, 0, 5, 1, 5);
    }
}
