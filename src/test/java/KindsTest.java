/** The document's part 4 and promises 18 to 22: mark, keep, back, count, trace. */
public final class KindsTest {
    private static final String SIX = "k1;k2;k3;k4;k5;k6;";
    private static final int[] NO_KEEPERS = {-1, 4, 5, 6, 32, 256, Integer.MIN_VALUE, Integer.MAX_VALUE};
    private static final int[] NO_IMAGES = {-1, 2, 3, 32, 256, Integer.MIN_VALUE, Integer.MAX_VALUE};
    private static final Check check = new Check();

    public static void main(String[] args) {
        check.all(KindsTest.class);
    }

    /** 1203: 1 at rock 0, 2 at rock 1, 0 at rock 2, at moon 3. */
    private static LightKeepers four() {
        return Check.after("k1;k2;k3;k9;", 1, 2, 0);
    }

    private static void mark(LightKeepers x, int kind, int... marks) {
        for (int k = 0; k < marks.length; k++) {
            check.due("mark(" + kind + ", " + k + ")", marks[k], x.mark(kind, k));
        }
    }

    private static void markKeeper() {
        check.of("MARK: 0 KEEPER his FLASH");
        mark(four(), 0, 1, 2, 3, 9);
    }

    private static void markSleeper() {
        check.of("MARK: 1 SLEEPER up, and his DRIFT");
        mark(four(), 1, 3, 3, 4, 9);
        mark(Check.after(SIX, 1, 2, 4, 8, 16), 1, 6, 3, 4, 5, 6, 7);
    }

    private static void markPilot() {
        check.of("MARK: 2 PILOT up less the number of his ROCK");
        mark(four(), 2, -1, 2, 2, 6);
        mark(Check.after(SIX, 1, 2, 4, 8, 16), 2, -4, 2, 2, 2, 2, 2);
    }

    private static void markHorn() {
        check.of("MARK: 3 HORN up (SLEEPER) times 2");
        mark(four(), 3, 6, 6, 8, 18);
    }

    private static void markCat() {
        check.of("MARK: 4 CAT up (PILOT), and his number");
        mark(four(), 4, -1, 3, 4, 9);
    }

    private static void markWife() {
        check.of("MARK: 5 WIFE up, and MOONS");
        mark(four(), 5, 4, 5, 6, 12);
        LightKeepers late = Check.coast("k9;");
        mark(late, 5, 9);
        for (int i = 0; i < 99; i++) {
            late.moon(0);
        }
        mark(late, 5, 108);
    }

    private static void markAsIfOfAKind() {
        check.of("MARK of a KEEPER as if of a KIND");
        LightKeepers x = four();
        for (int times = 0; times < 2; times++) {
            mark(x, 3, 6, 6, 8, 18);
            mark(x, 0, 1, 2, 3, 9);
        }
    }

    private static void markWhoeverIsOut() {
        check.of("(OUT does not matter but where it is told): MARK");
        LightKeepers x = four();
        x.puts(0, 1);
        x.puts(3, 1);
        mark(x, 0, 1, 2, 3, 9);
        mark(x, 4, -1, 3, 4, 9);
    }

    private static void markNo() {
        check.of("mark: NO: BAD");
        for (int k : NO_KEEPERS) {
            check.changesNothing("mark(0, " + k + ")", -1000000, Check::busy, x -> x.mark(0, k));
            check.changesNothing("mark(4, " + k + ")", -1000000, Check::busy, x -> x.mark(4, k));
        }
        for (int kind : new int[] {-1, 6, 7, 256, Integer.MIN_VALUE, Integer.MAX_VALUE}) {
            check.changesNothing("mark(" + kind + ", 0)", -1000000, Check::busy, x -> x.mark(kind, 0));
            check.changesNothing("mark(" + kind + ", 4)", -1000000, Check::busy, x -> x.mark(kind, 4));
        }
        check.due("no keepers: mark(0, 0)", -1000000, new LightKeepers().mark(0, 0));
        check.due("a mark below 0 is not NO", -4, Check.after(SIX, 1, 2, 4, 8, 16).mark(2, 0));
    }

    private static void traceAtFirst() {
        check.of("THE TRACE (0 at first)");
        check.due("trace()", 0, new LightKeepers().trace());
        check.due("trace() after moons", 0, four().trace());
    }

    private static void traceByKind() {
        check.of("numbers in brackets come to THE TRACE as often as mark() asks that body");
        long[] due = {1, 11, 101, 1011, 10101, 100001};
        for (int kind = 0; kind <= 5; kind++) {
            for (int k = 0; k <= 3; k++) {
                LightKeepers x = four();
                x.mark(kind, k);
                check.due("trace() after mark(" + kind + ", " + k + ")", due[kind], x.trace());
            }
        }
    }

    private static void traceOfAllCalls() {
        check.of("THE TRACE (of all calls ever, together)");
        LightKeepers x = four();
        x.mark(0, 0);
        x.mark(0, 0);
        x.mark(3, 1);
        x.mark(4, 3);
        check.due("trace()", 1 + 1 + 1011 + 10101, x.trace());
        LightKeepers many = Check.coast("k1;");
        for (int i = 0; i < 500; i++) {
            many.mark(i % 2 == 0 ? 5 : 4, 0);
        }
        check.due("trace() after 500 marks", 250L * (100001 + 10101), many.trace());
    }

    private static void traceAlone() {
        check.of("trace: THE TRACE (asked by mark() alone)");
        LightKeepers x = Check.coast("k5;k6;");
        x.mark(1, 1);
        x.keep(0);
        x.mark(0, 0);
        x.back(0);
        x.undo();
        for (int what = 0; what <= 5; what++) {
            x.keeper(0, what);
            x.now(what);
            x.count(what);
        }
        x.mark(6, 0);
        x.mark(0, 2);
        check.due("trace()", 12, x.trace());
        check.due("trace() asked again", 12, x.trace());
        x.coast();
        check.due("trace() of no keepers", 12, x.trace());
    }

    private static void keepMoons() {
        check.of("keep: An IMAGE is kept: MOONS");
        check.due("a new object: keep(0)", 0, new LightKeepers().keep(0));
        check.due("a new object: keep(1)", 0, new LightKeepers().keep(1));
        LightKeepers x = four();
        check.due("keep(0)", 3, x.keep(0));
        x.undo();
        check.due("keep(1)", 2, x.keep(1));
    }

    private static void keepBad() {
        check.of("keep: BAD");
        for (int image : NO_IMAGES) {
            check.changesNothing("keep(" + image + ")", -1, Check::busy, x -> x.keep(image));
            check.due("a new object: keep(" + image + ")", -1, new LightKeepers().keep(image));
        }
    }

    private static void keepNothingElse() {
        check.of("keep: An IMAGE is kept (nothing else is changed)");
        LightKeepers x = four();
        String ahead = Probe.seen(x);
        x.keep(0);
        check.due("all after keep(0)", ahead, Probe.seen(x));
        check.due("it is not undone: undo()", 2, x.undo());
    }

    private static void keepAgain() {
        check.of("keep: An IMAGE is kept (the one there was is gone)");
        LightKeepers x = Check.coast("k1;k2;k3;");
        x.keep(0);
        x.moon(1);
        x.puts(2, 1);
        check.due("keep(0) again", 1, x.keep(0));
        x.moon(2);
        check.due("back(0)", 1, x.back(0));
        check.dueWho("back(0)", "102", x);
        check.due("now(2)", 4, x.now(2));
        check.due("count(4)", 2, x.count(4));
    }

    private static void imagesKeepNow() {
        check.of("IMAGES 0, 1 keep NOW (who is where, MOONS, BURNT, who is OUT)");
        LightKeepers x = Check.coast("k1;k2;k3;");
        x.moon(1);
        x.puts(2, 1);
        x.moon(2);
        x.keep(1);
        x.moon(1);
        x.puts(2, 0);
        x.puts(0, 1);
        x.moon(2);
        check.due("back(1)", 2, x.back(1));
        check.dueWho("back(1)", "120", x);
        check.dueNows(x, 2, 9, 4, 0, 4);
        check.due("keeper(0, 3)", 0, x.keeper(0, 3));
        check.due("keeper(2, 3)", 1, x.keeper(2, 3));
    }

    private static void imagesTwo() {
        check.of("IMAGES 0, 1");
        LightKeepers x = Check.coast("k1;k2;k3;");
        x.keep(0);
        x.moon(1);
        x.keep(1);
        x.moon(2);
        check.due("back(0)", 0, x.back(0));
        check.dueWho("back(0)", "012", x);
        check.due("back(1)", 1, x.back(1));
        check.dueWho("back(1)", "102", x);
        check.due("back(0) again", 0, x.back(0));
        check.dueWho("back(0)", "012", x);
    }

    private static void imagesKeepWhatMayBeUndone() {
        check.of("IMAGES keep what may be UNDONE");
        LightKeepers x = Check.coast("k1;k2;k3;");
        x.moon(1);
        x.puts(2, 1);
        x.moon(2);
        x.keep(0);
        x.undo();
        x.undo();
        x.moon(2);
        x.puts(0, 1);
        x.puts(1, 1);
        x.moon(1);
        for (int times = 0; times < 2; times++) {
            check.due("back(0)", 2, x.back(0));
            check.due("count(4)", 3, x.count(4));
            check.due("undo()", 2, x.undo());
            check.dueWho("undo()", "102", x);
            check.dueNows(x, 1, 6, 4);
            check.due("undo()", 1, x.undo());
            check.dueNows(x, 1, 6, 0);
            check.due("undo()", 0, x.undo());
            check.dueWho("undo()", "012", x);
            check.due("undo() of none", -2, x.undo());
            x.puts(1, 1);
        }
    }

    /** Ten deeds of all sorts, as many as are known, at a coast of three. */
    private static LightKeepers tenDeeds() {
        LightKeepers x = Check.coast("k1;k2;k3;");
        for (int i = 0; i < 5; i++) {
            x.moon(1 + i % 2);
            x.puts(i % 3, 1 - x.keeper(i % 3, 3));
        }
        return x;
    }

    private static void imagesKeepAllThatMayBeUndone() {
        check.of("IMAGES keep what may be UNDONE (10 are known)");
        for (int image = 0; image <= 1; image++) {
            LightKeepers x = tenDeeds();
            x.keep(image);
            for (int i = 0; i < 12; i++) {
                x.moon(2);
            }
            check.due("back(" + image + ")", 5, x.back(image));
            check.due("count(4)", 10, x.count(4));
            LightKeepers never = tenDeeds();
            for (int left = 9; left >= 0; left--) {
                never.undo();
                check.due("undo()", left, x.undo());
                check.due("all that is seen", Probe.seen(never), Probe.seen(x));
            }
            check.due("undo() of none", -2, x.undo());
        }
    }

    private static void imagesNothingElse() {
        check.of("IMAGES keep NOW; nothing else");
        LightKeepers x = Check.coast("k1;k2;");
        x.saw(0, 1);
        x.keep(0);
        x.saw(1, 1);
        x.mark(0, 0);
        Check.type(x, "k1");
        x.moon(1);
        x.keep(1);
        x.back(0);
        check.due("count(3)", 2, x.count(3));
        check.due("fits(-1)", 0, x.fits(-1));
        check.due("count(5)", 2, x.count(5));
        check.due("trace()", 1, x.trace());
        check.due("the other image: back(1)", 1, x.back(1));
        check.dueWho("back(1)", "10", x);
    }

    private static void imagesStay() {
        check.of("IMAGES keep NOW (whatever is done later)");
        LightKeepers x = Check.coast("k1;k2;k3;");
        x.moon(1);
        x.keep(0);
        for (int i = 0; i < 12; i++) {
            x.moon(2);
        }
        x.undo();
        x.back(0);
        x.undo();
        x.puts(1, 1);
        x.moon(2);
        check.due("back(0)", 1, x.back(0));
        check.dueWho("back(0)", "102", x);
        check.dueNows(x, 1, 6, 0);
        check.due("back(0) once more", 1, x.back(0));
        check.due("undo()", 0, x.undo());
        check.dueWho("undo()", "012", x);
        check.due("undo(), back() is not undone", -2, x.undo());
    }

    private static void backMoons() {
        check.of("back: All of that becomes as an IMAGE has it: MOONS");
        LightKeepers x = four();
        x.keep(1);
        x.moon(1);
        check.due("back(1)", 3, x.back(1));
        check.due("now(0)", 3, x.now(0));
        check.due("as it is already: back(1)", 3, x.back(1));
        LightKeepers late = Check.coast("k1;");
        late.keep(0);
        for (int i = 0; i < 99; i++) {
            late.moon(0);
        }
        late.keep(1);
        check.due("back(0)", 0, late.back(0));
        check.due("moon(0) after back(0)", 0, late.moon(0));
        check.due("back(1)", 99, late.back(1));
        check.due("moon(0) after back(1)", -2, late.moon(0));
    }

    private static void backBad() {
        check.of("back: BAD");
        for (int image : NO_IMAGES) {
            check.changesNothing("back(" + image + ")", -1, Check::busy, x -> x.back(image));
            check.due("none was kept: back(" + image + ")", -1, new LightKeepers().back(image));
        }
    }

    private static void backState() {
        check.of("back: STATE: none was kept");
        check.changesNothing("the other one was: back(0)", -2, Check::busy, x -> x.back(0));
        check.changesNothing("a new object: back(0)", -2, LightKeepers::new, x -> x.back(0));
        check.changesNothing("a new object: back(1)", -2, LightKeepers::new, x -> x.back(1));
        LightKeepers x = four();
        x.keep(0);
        check.due("the other one was: back(1)", -2, x.back(1));
        check.due("back(0)", 3, x.back(0));
    }

    private static void count() {
        check.of("count: 0 KEEPERS, 1 HATES told, 2 SIGHT, 3 SEEN, 4 how many may be UNDONE, 5 bytes");
        LightKeepers x = Check.coast("k1;k2;k3;k4;h0 1;h1 0;h2 3;s5;");
        x.saw(0, 1);
        x.moon(2);
        x.puts(0, 1);
        x.moon(0);
        x.undo();
        Check.type(x, "k1; k1");
        check.dueCounts(x, 4, 3, 5, 1, 2, 6);
        for (int what = 0; what <= 5; what++) {
            int asked = what;
            int due = x.count(what);
            int busy = Check.busy().count(what);
            check.changesNothing("count(" + what + ")", busy, Check::busy, y -> y.count(asked));
            check.due("count(" + what + ") again", due, x.count(what));
        }
    }

    private static void countAtMost() {
        check.of("count: at most as told: 6 KEEPERS, 8 HATES, SIGHT 5, 6 SEEN, 10 UNDONE, 120 bytes");
        LightKeepers x = Check.coast(SIX + "h0 1;h1 0;h2 3;h3 2;h0 1;h1 0;h2 3;h3 2;s5;");
        for (int i = 0; i < 12; i++) {
            x.saw(0, 1);
            x.moon(0);
        }
        Check.type(x, " ".repeat(125));
        check.dueCounts(x, 6, 8, 5, 6, 10, 120);
    }

    private static void countBad() {
        check.of("count: BAD");
        for (int what : new int[] {-1, 6, 7, 256, Integer.MIN_VALUE, Integer.MAX_VALUE}) {
            check.changesNothing("count(" + what + ")", -1, Check::busy, x -> x.count(what));
            check.due("a new object: count(" + what + ")", -1, new LightKeepers().count(what));
        }
    }

    private static void noneIsTold() {
        check.of("The constants: NO: What none is, where a number may be below 0");
        check.due("NO", -1000000, LightKeepers.NO);
        check.due("BAD", -1, LightKeepers.BAD);
        check.due("STATE", -2, LightKeepers.STATE);
        check.due("FULL", -3, LightKeepers.FULL);
        check.due("NONE", -9, LightKeepers.NONE);
    }
}
