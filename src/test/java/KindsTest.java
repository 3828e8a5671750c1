/** Promises 18 to 22: mark, keep, back, count, trace. */
public final class KindsTest {
    private static final Check check = new Check();

    public static void main(String[] args) {
        promise18Mark();
        promise18MarkRefused();
        promise19Keep();
        promise20Back();
        promise20BackLeavesTheRest();
        promise20BackIsACopy();
        promise21Count();
        promise22Trace();
        check.end();
    }

    private static void promise18Mark() {
        LightKeepers x = Check.coast("k1;k2;k3;");
        x.moon(1);
        x.moon(2);
        check.dueWho("1, 2", "120", x);
        int[][] marks = {{1, 3, -1, 6, -1, 3}, {2, 3, 2, 6, 3, 4}, {3, 4, 2, 8, 4, 5}};
        for (int k = 0; k < 3; k++) {
            for (int kind = 0; kind < 6; kind++) {
                check.due("mark(" + kind + ", " + k + ")", marks[k][kind], x.mark(kind, k));
            }
        }
        x.puts(0, 1);
        check.due("mark(0, 0) of one who is out", 1, x.mark(0, 0));
        LightKeepers late = Check.coast("k9;");
        for (int i = 0; i < 99; i++) {
            late.moon(0);
        }
        check.due("mark(5, 0) at moon 99", 108, late.mark(5, 0));
    }

    private static void promise18MarkRefused() {
        LightKeepers x = Check.coast("k1;k2;");
        check.due("mark(-1, 0)", -1000000, x.mark(-1, 0));
        check.due("mark(6, 0)", -1000000, x.mark(6, 0));
        check.due("mark(0, -1)", -1000000, x.mark(0, -1));
        check.due("mark(0, 2)", -1000000, x.mark(0, 2));
        check.due("mark(6, 2)", -1000000, x.mark(6, 2));
        check.due("trace() after refusals", 0, x.trace());
    }

    private static void promise19Keep() {
        LightKeepers x = Check.coast("k1;k2;");
        check.due("keep(-1)", -1, x.keep(-1));
        check.due("keep(2)", -1, x.keep(2));
        check.due("keep(0)", 0, x.keep(0));
        x.moon(1);
        check.due("keep(1)", 1, x.keep(1));
        x.moon(1);
        x.moon(1);
        check.due("back(0)", 0, x.back(0));
        check.due("back(1)", 1, x.back(1));
        check.due("keep(0) again", 1, x.keep(0));
        x.moon(1);
        check.due("back(0), kept again", 1, x.back(0));
        check.dueWho("back(0)", "10", x);
        check.due("an image of a new object", 0, new LightKeepers().keep(1));
    }

    private static void promise20Back() {
        LightKeepers x = Check.coast("k1;k2;k3;");
        check.due("back(-1)", -1, x.back(-1));
        check.due("back(2)", -1, x.back(2));
        check.due("back(0), none kept", -2, x.back(0));
        x.moon(1);
        x.puts(2, 1);
        x.moon(2);
        x.keep(1);
        check.due("back(0), the other one kept", -2, x.back(0));
        x.undo();
        x.undo();
        x.moon(2);
        x.puts(0, 1);
        x.puts(1, 1);
        check.due("back(1)", 2, x.back(1));
        check.dueWho("back(1)", "120", x);
        check.due("now(0)", 2, x.now(0));
        check.due("now(1)", 6 + 3, x.now(1));
        check.due("now(2)", 4, x.now(2));
        check.due("count(4)", 3, x.count(4));
        check.due("undo()", 2, x.undo());
        check.dueWho("undo()", "102", x);
        check.due("undo()", 1, x.undo());
        check.due("now(2) undone", 0, x.now(2));
        check.due("undo()", 0, x.undo());
        check.due("undo() of none", -2, x.undo());
        check.due("back(1) once more", 2, x.back(1));
        check.due("count(4) once more", 3, x.count(4));
    }

    private static void promise20BackLeavesTheRest() {
        LightKeepers x = Check.coast("k1;k2;");
        x.saw(0, 1);
        x.keep(0);
        x.saw(1, 1);
        x.mark(0, 0);
        Check.type(x, "k1");
        x.moon(1);
        x.keep(1);
        x.back(0);
        check.due("count(3)", 2, x.count(3));
        check.due("fits(-1)", 0, x.fits(-1));
        check.due("count(5)", 2, x.count(5));
        check.due("trace()", 1, x.trace());
        check.due("back(1)", 1, x.back(1));
    }

    private static void promise20BackIsACopy() {
        LightKeepers x = Check.coast("k1;k2;k3;");
        x.moon(1);
        x.keep(0);
        x.undo();
        x.moon(2);
        x.moon(1);
        x.back(0);
        x.undo();
        check.dueWho("undone to the first", "012", x);
        x.puts(1, 1);
        x.moon(2);
        check.due("back(0)", 1, x.back(0));
        check.dueWho("back(0)", "102", x);
        check.due("now(2)", 0, x.now(2));
        check.due("count(4)", 1, x.count(4));
        check.due("undo()", 0, x.undo());
        check.dueWho("undo()", "012", x);
        check.due("now(0)", 0, x.now(0));
    }

    private static void promise21Count() {
        LightKeepers x = Check.coast("k1;k2;k3;k4;h0 1;h1 0;h2 3;s4;");
        x.saw(0, 1);
        x.moon(2);
        x.puts(0, 1);
        x.moon(0);
        x.undo();
        Check.type(x, "k1; ");
        int[] counts = {4, 3, 4, 1, 2, 4};
        for (int what = 0; what < counts.length; what++) {
            check.due("count(" + what + ")", counts[what], x.count(what));
        }
        check.due("count(-1)", -1, x.count(-1));
        check.due("count(6)", -1, x.count(6));
        for (int i = 0; i < 15; i++) {
            x.moon(0);
        }
        check.due("count(4) at most", 10, x.count(4));
    }

    private static void promise22Trace() {
        LightKeepers x = Check.coast("k5;k6;");
        long[] traces = {1, 11, 101, 1011, 10101, 100001};
        long sum = 0;
        for (int kind = 0; kind < 6; kind++) {
            x.mark(kind, 1);
            sum += traces[kind];
            check.due("trace() after mark(" + kind + ", 1)", sum, x.trace());
        }
        x.keep(0);
        x.mark(0, 0);
        x.back(0);
        x.undo();
        x.keeper(0, 0);
        x.now(4);
        check.due("trace() after back(0)", sum + 1, x.trace());
        check.due("trace() asked again", sum + 1, x.trace());
        x.coast();
        check.due("trace() after coast()", sum + 1, x.trace());
    }
}
