/** The document's part 2 and promises 7 to 10: moon, puts, undo, now. */
public final class DeedsTest {
    private static final String SIX = "k1;k2;k3;k4;k5;k6;";
    private static final Check check = new Check();

    public static void main(String[] args) {
        check.all(DeedsTest.class);
    }

    private static void changeBits() {
        check.of("A CHANGE: bit i: who is at ROCK i and who is at the next one change");
        String[] due = {"102345", "021345", "013245", "012435", "012354"};
        for (int bit = 0; bit <= 4; bit++) {
            check.dueWho("moon(" + (1 << bit) + ")", due[bit], Check.after(SIX, 1 << bit));
        }
        check.dueWho("moon(21)", "103254", Check.after(SIX, 21));
        check.dueWho("moon(10)", "021435", Check.after(SIX, 10));
        check.dueWho("moons 21, 10, 16", "130542", Check.after(SIX, 21, 10, 16));
        check.dueWho("two rocks: moon(1)", "10", Check.after("k1;k1;", 1));
    }

    private static void changeNoRockTwice() {
        check.of("A CHANGE: no ROCK in two of them");
        for (int change = 0; change <= 31; change++) {
            boolean twice = false;
            for (int bit = 0; bit <= 3; bit++) {
                twice |= (change >> bit) % 4 == 3;
            }
            LightKeepers x = Check.coast(SIX);
            int due = twice ? -2 : 2 * Integer.bitCount(change);
            check.due("moon(" + change + ")", due, x.moon(change));
        }
    }

    private static void changeNoHaters() {
        check.of("A CHANGE: none who HATE each other (either told so)");
        for (String hate : new String[] {"h1 2;", "h2 1;", "h1 2;h2 1;"}) {
            LightKeepers x = Check.coast("k1;k2;k3;k4;" + hate);
            check.due(hate + " moon(2)", -2, x.moon(2));
            check.due(hate + " moon(5)", 4, x.moon(5));
            check.dueWho(hate + " moon(5)", "1032", x);
            check.due(hate + " not neighbours: moon(5)", 4, x.moon(5));
            check.due(hate + " neighbours again: moon(2)", -2, x.moon(2));
            x.moon(1);
            check.dueWho(hate + " 1 at rock 0", "1023", x);
            check.due(hate + " who is there counts: moon(2)", 2, x.moon(2));
            check.dueWho(hate + " moved", "1203", x);
            check.due(hate + " who is there counts: moon(1)", -2, x.moon(1));
        }
        LightKeepers y = Check.coast(SIX + "h5 4;");
        check.due("one of three twos: moon(21)", -2, y.moon(21));
        check.due("without it: moon(5)", 4, y.moon(5));
        check.due("it alone: moon(16)", -2, y.moon(16));
    }

    private static void changeNobody() {
        check.of("A CHANGE: 0: nobody does");
        LightKeepers hating = Check.coast("k1;k2;h0 1;");
        check.due("haters: moon(0)", 0, hating.moon(0));
        check.dueWho("moon(0)", "01", hating);
        check.due("no rocks: moon(0)", 0, new LightKeepers().moon(0));
        check.due("one rock: moon(0)", 0, Check.coast("k1;").moon(0));
        LightKeepers six = Check.after(SIX, 21, 0, 0);
        check.dueWho("moons 21, 0, 0", "103254", six);
        check.due("moons all the same: now(0)", 3, six.now(0));
        check.due("burnt all the same: now(1)", 63, six.now(1));
        check.due("undone all the same: count(4)", 3, six.count(4));
    }

    private static void moonsOneMore() {
        check.of("A MOON by a CHANGE: they change; MOONS are one more");
        LightKeepers x = Check.coast("k1;k2;");
        for (int moons = 1; moons <= 5; moons++) {
            x.moon(moons % 2);
            check.due("now(0)", moons, x.now(0));
        }
        x.moon(2);
        check.due("after a refused one: now(0)", 5, x.now(0));
        x.puts(0, 1);
        check.due("after puts: now(0)", 5, x.now(0));
    }

    /** So many moons by 0 at a coast of two who hate each other. */
    private static LightKeepers moons(int many) {
        LightKeepers x = Check.coast("k9;k8;k7;h0 1;");
        for (int i = 0; i < many; i++) {
            x.moon(0);
        }
        return x;
    }

    private static void moonsAtMost() {
        check.of("MOONS (99 at most)");
        LightKeepers x = moons(98);
        check.due("moon(2), the 99th", 2, x.moon(2));
        check.due("now(0)", 99, x.now(0));
        check.due("now(1)", 99 * 24, x.now(1));
        check.due("moon(2), the 100th", -2, x.moon(2));
        check.due("undo()", 9, x.undo());
        check.due("moon(0), the 99th again", 0, x.moon(0));
        check.due("moon(0), the 100th", -2, x.moon(0));
        check.due("puts(0, 1) at 99", 1, x.puts(0, 1));
        x.keep(0);
        check.due("back(0) at 99", 99, x.back(0));
        check.due("moon(0) after back(0)", -2, x.moon(0));
    }

    private static void burnt() {
        check.of("BURNT is more by the FLASHES of all");
        check.due("none", 0, Check.after("", 0).now(1));
        check.due("one", 7, Check.after("k7;", 0).now(1));
        check.due("six", 21, Check.after(SIX, 0).now(1));
        check.due("six, by a change", 42, Check.after(SIX, 21, 10).now(1));
        LightKeepers x = Check.coast("k9;".repeat(6));
        for (int i = 0; i < 99; i++) {
            x.moon(21);
        }
        check.due("the most", 5346, x.now(1));
    }

    private static void burntLightsOut() {
        check.of("BURNT: of all whose lights are not OUT");
        LightKeepers x = Check.coast("k1;k2;k4;");
        x.puts(1, 1);
        check.due("puts() burns nothing: now(1)", 0, x.now(1));
        x.moon(1);
        check.due("1 out: now(1)", 5, x.now(1));
        x.puts(0, 1);
        x.moon(2);
        check.due("0, 1 out: now(1)", 9, x.now(1));
        x.puts(2, 1);
        x.moon(0);
        check.due("all out: now(1)", 9, x.now(1));
        x.puts(1, 0);
        x.moon(0);
        check.due("1 not out: now(1)", 11, x.now(1));
    }

    private static void out() {
        check.of("OUT: a KEEPER's light is, or is not (not at first)");
        LightKeepers x = Check.coast(SIX);
        check.due("now(2)", 0, x.now(2));
        for (int k = 0; k <= 5; k++) {
            check.due("keeper(" + k + ", 3)", 0, x.keeper(k, 3));
            check.due("puts(" + k + ", 0)", -2, x.puts(k, 0));
        }
        for (int k = 0; k <= 5; k++) {
            x.puts(k, 1);
            check.due("keeper(" + k + ", 3)", 1, x.keeper(k, 3));
        }
        check.due("now(2)", 63, x.now(2));
    }

    private static void outGoesWithHim() {
        check.of("OUT: it goes with him");
        LightKeepers x = Check.coast("k1;k2;k3;");
        x.puts(0, 1);
        x.moon(1);
        x.moon(2);
        check.due("keeper(0, 1)", 2, x.keeper(0, 1));
        check.due("keeper(0, 3)", 1, x.keeper(0, 3));
        check.due("keeper(1, 3)", 0, x.keeper(1, 3));
        check.due("now(2)", 1, x.now(2));
        check.due("now(1)", 10, x.now(1));
    }

    private static void undoneLatest() {
        check.of("UNDONE: the latest MOON, OUT");
        LightKeepers x = Check.coast("k1;k2;k3;");
        x.moon(1);
        x.puts(1, 1);
        x.moon(2);
        x.puts(1, 0);
        x.moon(0);
        int[][] due = {{2, 10, 0}, {2, 10, 2}, {1, 6, 2}, {1, 6, 0}, {0, 0, 0}};
        String[] who = {"120", "120", "102", "102", "012"};
        for (int i = 0; i <= 4; i++) {
            check.due("undo()", 4 - i, x.undo());
            check.dueNows(x, due[i]);
            check.dueWho("undo()", who[i], x);
        }
    }

    private static LightKeepers deeds(int many) {
        LightKeepers x = Check.coast("k1;k2;k3;");
        for (int i = 0; i < many; i++) {
            if (i % 3 == 2) {
                x.puts(0, 1 - x.keeper(0, 3));
            } else {
                x.moon(1 + i % 2);
            }
        }
        return x;
    }

    private static void undoneTenAreKnown() {
        check.of("UNDONE (10 are known");
        for (int many = 0; many <= 14; many++) {
            check.due(many + " deeds: count(4)", Math.min(many, 10), deeds(many).count(4));
        }
        LightKeepers x = deeds(10);
        for (int left = 9; left >= 0; left--) {
            check.due("undo()", left, x.undo());
        }
        check.dueWho("ten undone of ten", "012", x);
        check.dueNows(x, 0, 0, 0);
        check.due("undo() of none", -2, x.undo());
    }

    private static void undoneOlderAreLost() {
        check.of("UNDONE (older ones are lost)");
        for (int many = 11; many <= 14; many++) {
            LightKeepers x = deeds(many);
            for (int left = 9; left >= 0; left--) {
                check.due("undo()", left, x.undo());
                check.due("as after so many deeds", now(deeds(many - 10 + left)), now(x));
            }
            check.due("undo() of a lost one", -2, x.undo());
            check.due("as after so many deeds", now(deeds(many - 10)), now(x));
        }
    }

    private static String now(LightKeepers x) {
        return Probe.who(x) + " " + x.now(0) + " " + x.now(1) + " " + x.now(2);
    }

    private static void undoneAllIsAsAhead() {
        check.of("UNDONE: all is as ahead of it");
        LightKeepers moon = Check.busy();
        moon.moon(1);
        moon.undo();
        check.due("a moon undone", Probe.all(Check.busy()), Probe.all(moon));
        LightKeepers puts = Check.busy();
        puts.puts(0, 1);
        puts.undo();
        check.due("puts(0, 1) undone", Probe.all(Check.busy()), Probe.all(puts));
        LightKeepers back = Check.busy();
        back.puts(2, 0);
        back.undo();
        check.due("puts(2, 0) undone", Probe.all(Check.busy()), Probe.all(back));
        LightKeepers other = deeds(3);
        other.undo();
        other.moon(4 - other.now(0));
        other.undo();
        check.due("another one after it, undone", now(deeds(2)), now(other));
        check.due("count(4)", 2, other.count(4));
    }

    private static void undoneAlone() {
        check.of("UNDONE: the latest MOON, OUT (nothing else is)");
        LightKeepers x = Check.coast("k1;k2;k3;");
        x.moon(1);
        x.saw(0, 1);
        x.keep(0);
        x.mark(0, 0);
        Check.type(x, "k");
        x.back(0);
        x.moon(3);
        check.due("count(4)", 1, x.count(4));
        check.due("undo()", 0, x.undo());
        check.dueWho("undo()", "012", x);
        check.due("undo()", -2, x.undo());
        check.due("count(3)", 1, x.count(3));
        check.due("count(5)", 1, x.count(5));
        check.due("trace()", 1, x.trace());
        check.due("back(0)", 1, x.back(0));
        check.dueWho("back(0)", "102", x);
    }

    private static void promise7HowMany() {
        check.of("moon: A MOON by a CHANGE: how many KEEPERS changed");
        check.due("moon(0)", 0, Check.coast(SIX).moon(0));
        check.due("moon(16)", 2, Check.coast(SIX).moon(16));
        check.due("moon(17)", 4, Check.coast(SIX).moon(17));
        check.due("moon(21)", 6, Check.coast(SIX).moon(21));
        check.due("like flashes: moon(5)", 4, Check.coast("k1;k1;k1;k1;").moon(5));
    }

    private static void promise7Bad() {
        check.of("moon: BAD (bits of ROCKS that have a next one)");
        for (int n = 0; n <= 6; n++) {
            String told = "k1;".repeat(n);
            int beyond = n > 1 ? 1 << n - 1 : 1;
            int[] bad = {beyond, beyond + 1, 2 * beyond, 256, 1 << 30, -1, -256, Integer.MIN_VALUE};
            for (int change : bad) {
                check.changesNothing(n + " rocks: moon(" + change + ")", -1, () -> Check.coast(told),
                        x -> x.moon(change));
            }
            if (n > 1) {
                check.due(n + " rocks: moon(" + beyond / 2 + ")", 2, Check.coast(told).moon(beyond / 2));
            }
        }
        check.changesNothing("moon(8)", -1, Check::busy, x -> x.moon(8));
    }

    private static void promise7State() {
        check.of("moon: STATE: a ROCK in two of them, two who HATE, it is MOON 99");
        check.changesNothing("a rock in two: moon(3)", -2, Check::busy, x -> x.moon(3));
        check.changesNothing("a rock in two: moon(6)", -2, Check::busy, x -> x.moon(6));
        check.changesNothing("a rock in two: moon(7)", -2, Check::busy, x -> x.moon(7));
        check.changesNothing("two who hate: moon(1)", -2, () -> moons(3), x -> x.moon(1));
        check.changesNothing("moon 99: moon(2)", -2, () -> moons(99), x -> x.moon(2));
        check.changesNothing("moon 99: moon(0)", -2, () -> moons(99), x -> x.moon(0));
        check.due("moon 98: moon(2)", 2, moons(98).moon(2));
    }

    private static void promise7BadAheadOfState() {
        check.of("moon: the first of these: BAD, STATE");
        check.due("moon 99: moon(4)", -1, moons(99).moon(4));
        check.due("moon 99: moon(-1)", -1, moons(99).moon(-1));
        check.due("a rock in two, and one that has no next: moon(7)", -1, moons(0).moon(7));
        check.due("two who hate, and one that has no next: moon(5)", -1, moons(0).moon(5));
        check.due("haters, one in two, moon 99: moon(3)", -2, moons(99).moon(3));
    }

    private static void promise8HowMany() {
        check.of("puts: OUT (1), not (0): how many are");
        LightKeepers x = Check.coast(SIX);
        for (int k = 5; k >= 0; k--) {
            check.due("puts(" + k + ", 1)", 6 - k, x.puts(k, 1));
        }
        for (int k = 0; k <= 5; k++) {
            check.due("puts(" + k + ", 0)", 5 - k, x.puts(k, 0));
        }
        check.due("now(2)", 0, x.now(2));
        x.puts(3, 1);
        check.due("now(2)", 8, x.now(2));
        check.due("keeper(3, 3)", 1, x.keeper(3, 3));
    }

    private static void promise8Bad() {
        check.of("puts: BAD");
        int[] none = {-1, 4, 6, 32, 33, -32, 256, Integer.MIN_VALUE, Integer.MAX_VALUE};
        for (int k : none) {
            check.changesNothing("puts(" + k + ", 1)", -1, Check::busy, x -> x.puts(k, 1));
            check.changesNothing("puts(" + k + ", 0)", -1, Check::busy, x -> x.puts(k, 0));
        }
        for (int is : new int[] {-1, 2, 3, 256, Integer.MIN_VALUE, Integer.MAX_VALUE}) {
            check.changesNothing("puts(0, " + is + ")", -1, Check::busy, x -> x.puts(0, is));
            check.changesNothing("puts(3, " + is + ")", -1, Check::busy, x -> x.puts(3, is));
        }
        check.due("no keepers: puts(0, 1)", -1, new LightKeepers().puts(0, 1));
    }

    private static void promise8State() {
        check.of("puts: STATE: it is so");
        check.changesNothing("puts(0, 0)", -2, Check::busy, x -> x.puts(0, 0));
        check.changesNothing("puts(3, 1)", -2, Check::busy, x -> x.puts(3, 1));
        LightKeepers x = Check.coast("k1;");
        check.due("puts(0, 1)", 1, x.puts(0, 1));
        check.due("puts(0, 1) again", -2, x.puts(0, 1));
        check.due("puts(0, 0)", 0, x.puts(0, 0));
        check.due("puts(0, 0) again", -2, x.puts(0, 0));
        check.due("count(4)", 2, x.count(4));
    }

    private static void promise9HowMany() {
        check.of("undo: UNDONE: how many more may be");
        for (int many = 1; many <= 12; many++) {
            check.due(many + " deeds: undo()", Math.min(many, 10) - 1, deeds(many).undo());
        }
        LightKeepers x = deeds(4);
        x.undo();
        check.due("count(4)", 3, x.count(4));
        x.moon(0);
        check.due("one more: count(4)", 4, x.count(4));
        check.due("undo()", 3, x.undo());
    }

    private static void promise9State() {
        check.of("undo: STATE: none");
        check.changesNothing("a new object: undo()", -2, LightKeepers::new, x -> x.undo());
        check.changesNothing("undo()", -2, () -> Check.coast("k1;k2;"), x -> x.undo());
        LightKeepers x = Check.after("k1;k2;", 1);
        x.undo();
        check.due("undo() again", -2, x.undo());
        check.due("undo() once more", -2, x.undo());
        check.due("count(4)", 0, x.count(4));
        LightKeepers refused = Check.coast("k1;k2;");
        refused.puts(0, 0);
        refused.moon(2);
        check.due("refused deeds: undo()", -2, refused.undo());
    }

    private static void promise10() {
        check.of("now: 0 MOONS, 1 BURNT, 2 who is OUT (bits), 3 LIKES, 4 DRIFTS of all together, 5 CALM");
        LightKeepers x = Check.after("k1;k2;k3;k1;s2;", 5, 2);
        x.puts(3, 1);
        x.puts(0, 1);
        x.moon(0);
        check.dueWho("moons 5, 2, 0", "1302", x);
        check.dueNows(x, 3, 19, 9, 1, 6, 5);
        check.dueNows(Check.coast("k5;"), 0, 0, 0, 0, 0, 0);
    }

    private static void likes(int likes, String text) {
        check.due(text + " now(3)", likes, Check.coast(text).now(3));
    }

    private static void promise10Likes() {
        check.of("LIKES: how many twos of ROCKS in sight of each other have KEEPERS of like FLASHES");
        likes(0, "k1;");
        likes(0, "k1;k1;k1;s0;");
        likes(2, "k1;k1;k1;");
        likes(3, "k1;k1;k1;s2;");
        likes(3, "k1;k1;k1;s5;");
        likes(9, "k1;k1;k1;k1;k1;k1;s2;");
        likes(14, "k1;k1;k1;k1;k1;k1;s4;");
        likes(15, "k1;k1;k1;k1;k1;k1;s5;");
        likes(3, "k1;k2;k1;k2;k1;s2;");
        likes(4, "k1;k2;k1;k2;k1;s5;");
        likes(0, SIX + "s5;");
        LightKeepers x = Check.after("k1;k1;k2;", 2);
        check.due("where they are now: now(3)", 0, x.now(3));
        LightKeepers out = Check.coast("k1;k1;");
        out.puts(0, 1);
        out.puts(1, 1);
        check.due("lights that are out: now(3)", 1, out.now(3));
    }

    private static void promise10Drifts() {
        check.of("DRIFT: how far his ROCK is from his HOME; of all together");
        check.due("now(4) at home", 0, Check.coast(SIX).now(4));
        check.due("now(4)", 6, Check.after(SIX, 21).now(4));
        check.due("now(4), the most", 18, Check.after(SIX, 21, 10, 21, 10, 21, 10).now(4));
        check.due("now(4), one goes far", 10, Check.after(SIX, 1, 2, 4, 8, 16).now(4));
    }

    private static void promise10Bad() {
        check.of("now: BAD");
        for (int what : new int[] {-1, 6, 7, 256, Integer.MIN_VALUE, Integer.MAX_VALUE}) {
            check.changesNothing("now(" + what + ")", -1, Check::busy, x -> x.now(what));
        }
        check.due("no keepers: now(6)", -1, new LightKeepers().now(6));
    }

    private static void calm(int change, String text) {
        check.due(text + " now(5)", change, Check.coast(text).now(5));
    }

    private static void calmFewestLikes() {
        check.of("CALM: of all CHANGES the one by which there are fewest LIKES");
        calm(2, "k1;k1;k2;k2;");
        calm(1, "k1;k2;k2;k3;k4;h2 3;h3 4;");
        calm(2, "k1;k1;k2;");
        calm(1, "k2;k1;k1;k3;h2 3;");
        calm(0, "k1;k2;k1;");
        check.due("after it: now(5)", 0, Check.after("k1;k1;k2;", 2).now(5));
    }

    private static void calmMostChange() {
        check.of("CALM: of several by which most change");
        calm(21, SIX);
        calm(5, "k3;k3;k3;k3;");
        calm(1, "k3;k3;");
        calm(21, "k1;k1;k1;k1;k1;k1;s5;");
        calm(21, "k1;k1;k1;k1;k1;k1;s0;");
        calm(10, SIX + "h0 1;");
        calm(9, SIX + "h2 3;h4 5;h0 2;");
    }

    private static void calmLeastBits() {
        check.of("CALM: then the least bits");
        calm(1, "k1;k2;k3;");
        calm(5, "k1;k2;k3;k4;k5;");
        calm(9, "k1;k2;k3;k4;k5;h2 3;h1 2;");
        calm(10, "k1;k2;k3;k4;k5;h0 1;");
    }

    private static void calmOfAllChanges() {
        check.of("CALM: of all CHANGES (none who HATE, 0: nobody does)");
        calm(0, "");
        calm(0, "k1;");
        calm(0, "k1;k2;h0 1;");
        calm(0, "k1;k2;k1;");
        calm(0, "k1;k1;k2;h1 2;h0 1;");
        calm(2, "k1;k2;k3;h1 0;");
        calm(0, "k1;k2;k3;h0 1;h2 1;");
        LightKeepers late = moons(99);
        check.due("at moon 99: now(5)", 2, late.now(5));
    }

    private static void calmWhoeverIsOut() {
        check.of("(OUT does not matter but where it is told): CALM");
        LightKeepers x = Check.coast("k1;k1;k2;k2;");
        for (int k = 0; k <= 3; k++) {
            x.puts(k, 1);
            check.due("0 .. " + k + " out: now(5)", 2, x.now(5));
        }
    }

    private static void nowChangesNothing() {
        check.of("(Nothing is changed): now");
        int[] due = {2, 13, 12, 1, 4, 5};
        for (int what = 0; what <= 5; what++) {
            int asked = what;
            check.changesNothing("now(" + what + ")", due[what], Check::busy, x -> x.now(asked));
        }
    }
}
