/** Promises 1 to 6: a new object, type, clear, coast, keeper, rock. */
public final class CoastTest {
    private static final Check check = new Check();

    public static void main(String[] args) {
        promise1NewObject();
        promise2Type();
        promise3Clear();
        promise4CoastTells();
        promise4CoastBegins();
        promise4FaultOfItems();
        promise4FaultOfLimits();
        promise4FaultOfBytes();
        promise4FaultChangesNothing();
        promise5Keeper();
        promise6Rock();
        check.end();
    }

    private static void promise1NewObject() {
        LightKeepers x = new LightKeepers();
        int[] counts = {0, 0, 1, 0, 0, 0};
        for (int what = 0; what < counts.length; what++) {
            check.due("new: count(" + what + ")", counts[what], x.count(what));
        }
        for (int what = 0; what <= 5; what++) {
            check.due("new: now(" + what + ")", 0, x.now(what));
        }
        check.due("new: trace()", 0, x.trace());
        check.due("new: keeper(0, 0)", -1, x.keeper(0, 0));
        check.due("new: rock(0)", -1, x.rock(0));
        check.due("new: undo()", -2, x.undo());
        check.due("new: back(0)", -2, x.back(0));
        check.due("new: moon(1)", -1, x.moon(1));
        check.due("new: moon(0)", 0, x.moon(0));
        check.due("new: now(0) after moon", 1, x.now(0));
        check.due("new: homeward(1, 0)", 0, x.homeward(1, 0));
        check.due("new: homeward(1, 1)", -9, x.homeward(1, 1));
        check.due("new: trade(0, 1, 0)", -1, x.trade(0, 1, 0));
        check.due("new: fits(-1)", 1, x.fits(-1));
        check.due("new: fits(0)", -1, x.fits(0));
        check.due("new: saw(0, 1)", -1, x.saw(0, 1));
        check.due("new: odds(0, 1, 0)", -1, x.odds(0, 1, 0));
        check.due("new: mark(0, 0)", -1000000, x.mark(0, 0));
    }

    private static void promise2Type() {
        LightKeepers x = new LightKeepers();
        check.due("type(-1)", -1, x.type(-1));
        check.due("type(256)", -1, x.type(256));
        check.due("type(0)", 1, x.type(0));
        check.due("type(255)", 2, x.type(255));
        for (int i = 3; i <= 120; i++) {
            check.due("type(32), byte " + i, i, x.type(32));
        }
        check.due("type(32), byte 121", -3, x.type(32));
        check.due("type(256) on a full text", -1, x.type(256));
        check.due("count(5) of a full text", 120, x.count(5));
    }

    private static void promise3Clear() {
        LightKeepers x = new LightKeepers();
        check.due("clear() of none", 0, x.clear());
        Check.type(x, "k1;");
        check.due("clear() of three", 3, x.clear());
        check.due("count(5) after clear()", 0, x.count(5));
        check.due("coast() after clear()", 0, x.coast());
        check.due("count(0) after clear()", 0, x.count(0));
    }

    private static void promise4CoastTells() {
        check.due("no items", 0, Check.read(""));
        check.due("blanks", 0, Check.read("   "));
        check.due("blanks all over", 4, Check.read("  k 1 ; k2;h 0  1 ;s  0 ; "));
        check.due("no blanks", 4, Check.read("k1;k2;h0 1;s5;"));
        LightKeepers x = Check.coast("k1;k9;k3;h2 0;h0 2;s 4;");
        check.due("count(0)", 3, x.count(0));
        check.due("count(1)", 2, x.count(1));
        check.due("count(2)", 4, x.count(2));
        check.due("count(5)", 0, x.count(5));
        check.due("keeper(1, 0)", 9, x.keeper(1, 0));
        check.due("keeper(0, 4)", 4, x.keeper(0, 4));
        check.due("keeper(2, 4)", 1, x.keeper(2, 4));
        check.due("most of all", 15,
                Check.read("k1;k1;k1;k1;k1;k1;s1;h0 1;h0 1;h0 1;h0 1;h0 1;h0 1;h5 4;h3 2;"));
        check.due("a full text", 7, Check.read("k1;k1;k1;k1;k1;k1;s1;" + " ".repeat(99)));
    }

    private static void promise4CoastBegins() {
        LightKeepers x = Check.coast("k1;k2;k3;h0 1;s3;");
        x.moon(2);
        x.puts(0, 1);
        x.saw(0, 1);
        x.keep(0);
        x.keep(1);
        x.mark(0, 0);
        Check.type(x, "k4;k4;");
        check.due("coast() again", 2, x.coast());
        int[] counts = {2, 0, 1, 0, 0, 0};
        for (int what = 0; what < counts.length; what++) {
            check.due("anew: count(" + what + ")", counts[what], x.count(what));
        }
        int[] nows = {0, 0, 0, 1, 0, 1};
        for (int what = 0; what < nows.length; what++) {
            check.due("anew: now(" + what + ")", nows[what], x.now(what));
        }
        check.dueWho("coast() again", "01", x);
        check.due("anew: keeper(0, 4)", 0, x.keeper(0, 4));
        check.due("anew: undo()", -2, x.undo());
        check.due("anew: back(0)", -2, x.back(0));
        check.due("anew: back(1)", -2, x.back(1));
        check.due("anew: trace()", 1, x.trace());
        check.due("anew: trade(0, 1, 0)", 1, x.trade(0, 1, 0));
        check.due("coast() of no text", 0, x.coast());
        check.due("no text: count(0)", 0, x.count(0));
        check.due("no text: rock(0)", -1, x.rock(0));
        check.due("no text: fits(-1)", 1, x.fits(-1));
        check.due("no text: moon(0)", 0, x.moon(0));
        check.due("no text: homeward(0, 0)", 0, x.homeward(0, 0));
        Check.type(x, "k1;k2;k3;k4;");
        x.coast();
        check.due("four: fits(-1)", 24, x.fits(-1));
        check.due("four: moon(4)", 2, x.moon(4));
        check.dueWho("four: moon(4)", "0132", x);
    }

    /** Each text's fault is where its mark | stands, which is not typed. */
    private static void fault(String marked) {
        int place = marked.indexOf('|');
        String text = marked.substring(0, place) + marked.substring(place + 1);
        check.due("coast() of " + marked, -10 - place, Check.read(text));
    }

    private static void promise4FaultOfItems() {
        fault("|x1;");
        fault("|kk 1;");
        fault("|;");
        fault("|1;");
        fault("  |a");
        fault("k|;");
        fault("|kk1;");
        fault("|ka1;");
        fault("|kz1;");
        fault("k|");
        fault("k |");
        fault("k1|");
        fault("k1  |");
        fault("k1 |2;");
        fault("k1 |k2;");
        fault("k1;|;");
        fault("k1;|1;");
        fault("k1;k2;h0|");
        fault("k1;k2;h0 |");
        fault("k1;k2;h0 1|");
        fault("k1;k2;h0|;");
        fault("k1;k2;h|;");
        fault("k1;k2;h0 1 |0;");
        fault("s|;");
        fault("s1|");
        fault("s1 |k;");
    }

    private static void promise4FaultOfLimits() {
        fault("k|0;");
        fault("k|10;");
        fault("k|99");
        fault("h|0 1;");
        fault("k1;h|1 0;");
        fault("k1;h0 |1;k1;");
        fault("k1;k1;h0 |0;");
        fault("k1;k1;h0 |2;");
        fault("k1;k1;h|2 0;");
        fault("s|6;");
        fault("s1;|s1;");
        fault("s1;k1;|s");
        fault("k1;k1;k1;k1;k1;k1;|k1;");
        fault("k1;k1;k1;k1;k1;k1; |k");
        fault("k1;k1;h0 1;h1 0;h0 1;h1 0;h0 1;h1 0;h0 1;h1 0;|h0 1;");
    }

    private static void promise4FaultOfBytes() {
        fault("|!");
        fault("k|K");
        fault("|K1;");
        fault("k|-1;");
        fault("k1|\t;");
        fault("k1;|\n");
        fault("k|\u00e91;");
        fault("k|01;");
        fault("k|00;");
        fault("k|100;");
        fault("k|4294967297;");
        fault("k|11111111111111111111111111111111111111111111;");
        fault("k1;k1;h|00 1;");
        fault("k1;k1;h0 |01;");
        fault("s|05;");
        fault("k1|x;");
        fault("k|0 !");
        fault("|kx!");
        fault("k1|,;");
        fault("k1|:");
        fault("k|{1;");
        fault("k|`1;");
        fault("k|/1;");
    }

    private static void promise4FaultChangesNothing() {
        LightKeepers x = Check.coast("k1;k2;k3;h0 1;s0;");
        x.moon(2);
        x.puts(1, 1);
        x.saw(2, 2);
        x.keep(1);
        Check.type(x, "k5;s2;k");
        check.due("a text that ends too early", -17, x.coast());
        int[] counts = {3, 1, 0, 1, 2, 7};
        for (int what = 0; what < counts.length; what++) {
            check.due("fault: count(" + what + ")", counts[what], x.count(what));
        }
        check.dueWho("a fault", "021", x);
        check.due("fault: now(0)", 1, x.now(0));
        check.due("fault: now(1)", 6, x.now(1));
        check.due("fault: now(2)", 2, x.now(2));
        check.due("fault: keeper(0, 0)", 1, x.keeper(0, 0));
        check.due("fault: keeper(0, 4)", 2, x.keeper(0, 4));
        check.due("fault: undo()", 1, x.undo());
        check.due("fault: back(1)", 1, x.back(1));
        check.due("fault: now(2) after back", 2, x.now(2));
        Check.type(x, "7;");
        check.due("the text goes on", 3, x.coast());
        check.due("fault mended: keeper(1, 0)", 7, x.keeper(1, 0));
        check.due("fault mended: count(2)", 2, x.count(2));
    }

    private static void promise5Keeper() {
        LightKeepers x = Check.coast("k2;k9;k4;h0 2;h1 2;");
        check.due("keeper(-1, 0)", -1, x.keeper(-1, 0));
        check.due("keeper(3, 0)", -1, x.keeper(3, 0));
        check.due("keeper(0, -1)", -1, x.keeper(0, -1));
        check.due("keeper(0, 5)", -1, x.keeper(0, 5));
        check.due("keeper(2, 4)", 3, x.keeper(2, 4));
        check.due("keeper(0, 4)", 4, x.keeper(0, 4));
        check.due("keeper(1, 4)", 4, x.keeper(1, 4));
        x.moon(1);
        x.puts(1, 1);
        check.due("keeper(0, 0)", 2, x.keeper(0, 0));
        check.due("keeper(1, 0)", 9, x.keeper(1, 0));
        check.due("keeper(0, 1)", 1, x.keeper(0, 1));
        check.due("keeper(1, 1)", 0, x.keeper(1, 1));
        check.due("keeper(0, 2)", 1, x.keeper(0, 2));
        check.due("keeper(1, 2)", 1, x.keeper(1, 2));
        check.due("keeper(2, 2)", 0, x.keeper(2, 2));
        check.due("keeper(0, 3)", 0, x.keeper(0, 3));
        check.due("keeper(1, 3)", 1, x.keeper(1, 3));
    }

    private static void promise6Rock() {
        LightKeepers x = Check.coast("k1;k2;k3;");
        check.due("rock(-1)", -1, x.rock(-1));
        check.due("rock(3)", -1, x.rock(3));
        check.dueWho("nothing", "012", x);
        x.moon(1);
        x.moon(2);
        check.dueWho("moons 1, 2", "120", x);
    }
}
