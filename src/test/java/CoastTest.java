/** The document's part 1 and promises 1 to 6: the text, a new object, type, clear, coast, keeper, rock. */
public final class CoastTest {
    private static final String SIX = "k1;k2;k3;k4;k5;k6;";
    private static final String BLANKS_99 = " ".repeat(99);
    private static final Check check = new Check();

    public static void main(String[] args) {
        check.all(CoastTest.class);
    }

    /** A text's fault is where its mark | stands, which is not typed. */
    private static void fault(String marked) {
        int place = marked.indexOf('|');
        String text = marked.substring(0, place) + marked.substring(place + 1);
        check.due("coast() of " + marked, -10 - place, Check.read(text));
    }

    private static void items(int items, String text) {
        check.due("coast() of " + text, items, Check.read(text));
    }

    private static void rocks() {
        check.of("ROCKS 0 .. , as many as KEEPERS are told (6 at most)");
        for (int n = 0; n <= 6; n++) {
            LightKeepers x = Check.coast("k7;".repeat(n));
            check.due("count(0) of " + n, n, x.count(0));
            check.due("the last rock of " + n, n - 1, x.rock(n - 1));
            check.due("a rock beyond " + n, -1, x.rock(n));
        }
        fault("k7;k7;k7;k7;k7;k7;|k7;");
    }

    private static void flash() {
        check.of("KEEPERS: FLASH (1 .. 9)");
        for (int flash = 1; flash <= 9; flash++) {
            check.due("keeper(0, 0)", flash, Check.coast("k" + flash + ";").keeper(0, 0));
        }
        fault("k|0;");
        fault("k|10;");
    }

    private static void home() {
        check.of("at first each at the ROCK of his own number, his HOME");
        LightKeepers x = Check.coast(SIX);
        check.dueWho("coast()", "012345", x);
        for (int k = 0; k < 6; k++) {
            check.due("keeper(" + k + ", 1)", k, x.keeper(k, 1));
            check.due("keeper(" + k + ", 2)", 0, x.keeper(k, 2));
        }
    }

    private static void hatesAtMost() {
        check.of("HATES: twos of KEEPERS (8 of them at most)");
        String told = SIX;
        for (int hates = 1; hates <= 8; hates++) {
            told += "h" + hates % 6 + " " + (hates + 1) % 6 + ";";
            check.due("count(1)", hates, Check.coast(told).count(1));
        }
        fault(told + "|h2 4;");
    }

    private static void sight() {
        check.of("SIGHT (0 .. 5)");
        for (int sight = 0; sight <= 5; sight++) {
            check.due("count(2)", sight, Check.coast("k1;s" + sight + ";").count(2));
        }
        fault("k1;s|6;");
    }

    private static void sightAtFirst() {
        check.of("SIGHT (1 at first)");
        check.due("count(2) of a new object", 1, new LightKeepers().count(2));
        LightKeepers x = Check.coast(SIX);
        check.due("count(2), not told", 1, x.count(2));
        Check.again(x, "s4;k1;k1;k1;");
        check.due("count(2), told", 4, x.count(2));
        Check.again(x, "k1;k1;k1;");
        check.due("count(2), not told again", 1, x.count(2));
        check.due("now(3), not told again", 2, x.now(3));
    }

    private static void inSight() {
        check.of("two ROCKS are in sight of each other, if their numbers are no more than that apart");
        for (int sight = 0; sight <= 5; sight++) {
            for (int apart = 1; apart <= 5; apart++) {
                String alike = SIX.replace("k" + (apart + 1), "k1");
                int likes = Check.coast(alike + "s" + sight + ";").now(3);
                check.due("sight " + sight + ", " + apart + " apart: now(3)", apart <= sight ? 1 : 0, likes);
            }
        }
    }

    private static void textAtMost() {
        check.of("They are a text (120 bytes at most)");
        LightKeepers x = new LightKeepers();
        check.due("all bytes typed", 120, Check.type(x, "s1;" + SIX + BLANKS_99));
        check.due("one more", -3, x.type(';'));
        check.due("coast() of 120 bytes", 7, x.coast());
        Check.type(x, BLANKS_99 + "s1;" + SIX);
        check.due("coast() with the last item at the end", 7, x.coast());
    }

    private static void blanks() {
        check.of("blanks (32) ahead of, between and behind TOKENS as may be");
        items(1, " k1;");
        items(1, "k 1;");
        items(1, "k1 ;");
        items(1, "k1; ");
        items(2, "k1; k1;");
        items(4, "   k   1   ;   k   2   ;   h   0   1   ;   s   0   ;   ");
        items(1, BLANKS_99 + "k1" + " ".repeat(18) + ";");
    }

    private static void blanksAlone() {
        check.of("blanks (32): no other byte is one");
        for (int c : new int[] {0, 9, 10, 11, 12, 13, 31, 33, 95, 128, 133, 160, 255}) {
            String other = Character.toString((char) c);
            check.due("byte " + c + " ahead of tokens", -10, Check.read(other + "k1;"));
            check.due("byte " + c + " between tokens", -11, Check.read("k" + other + "1;"));
            check.due("byte " + c + " ahead of the end", -12, Check.read("k1" + other + ";"));
            check.due("byte " + c + " behind tokens", -13, Check.read("k1;" + other));
        }
    }

    private static void blanksNotNeeded() {
        check.of("(none needed where TOKENS end without)");
        items(5, "k1;k2;h0 1;s2;k3;");
        fault("k1;k2;h|01;");
        fault("k1;k2;h|10;");
        fault("k|12;");
        check.due("the most in the fewest bytes", 15,
                Check.read("k1;k1;k1;k1;k1;k1;h0 1;h0 1;h0 1;h0 1;h0 1;h0 1;h0 1;h0 1;s1;"));
    }

    private static void itemsNone() {
        check.of("ITEMS (none, too)");
        for (String none : new String[] {"", " ", " ".repeat(120)}) {
            LightKeepers x = Check.coast(SIX + "h0 1;s3;");
            Check.type(x, none);
            check.due("coast() of " + none.length() + " blanks", 0, x.coast());
            check.dueCounts(x, 0, 0, 1, 0, 0, 0);
            check.due("rock(0)", -1, x.rock(0));
        }
    }

    private static void itemsEnd() {
        check.of("ITEMS, each letters and what is told, ended by ;");
        items(1, "k1;");
        fault("k1|");
        fault("k1 |k1;");
        fault("k1 |1;");
        fault("s1 |s");
        fault("k1;k1;h0 1 |0;");
        fault("k|;");
        fault("s|;");
        fault("h|;");
        fault("k1;k1;h0|;");
        fault("|;");
        fault("k1;|;");
        fault("|1;");
        fault("k1;|0 1;");
    }

    private static void toldAhead() {
        check.of("h A B (two KEEPERS told ahead)");
        items(3, "k1;k1;h0 1;");
        items(3, "k1;k1;h1 0;");
        fault("h|0 1;k1;k1;");
        fault("k1;h0 |1;k1;");
        fault("k1;h|1 0;k1;");
        fault("k1;k1;h0 |2;");
        fault("k1;k1;h|2 0;");
        items(7, SIX + "h4 5;");
        fault(SIX + "h4 |6;");
        fault(SIX + "h|6 4;");
    }

    private static void unlike() {
        check.of("h A B (two KEEPERS, unlike)");
        fault("k1;h0 |0;");
        for (int k = 0; k <= 5; k++) {
            fault(SIX + "h" + k + " |" + k + ";");
        }
    }

    private static void toldAgain() {
        check.of("h A B (told again, either way round: one more)");
        LightKeepers x = Check.coast("k1;k1;h0 1;h0 1;h1 0;");
        check.due("count(1)", 3, x.count(1));
        check.due("keeper(0, 4)", 2, x.keeper(0, 4));
        check.due("keeper(1, 4)", 1, x.keeper(1, 4));
        String eight = "k1;k1;" + "h0 1;h1 0;".repeat(4);
        check.due("count(1) of eight", 8, Check.coast(eight).count(1));
        fault(eight + "|h0 1;");
    }

    private static void sightOnce() {
        check.of("s N (sight; once at most)");
        items(2, "s1;k1;");
        items(2, "k1;s1;");
        fault("s2;k1;|s2;");
        LightKeepers x = Check.coast("s2;");
        Check.again(x, "s3;");
        check.due("once in each text: count(2)", 3, x.count(2));
    }

    private static void letters() {
        check.of("TOKENS are letters a .. z side by side");
        fault("|kk1;");
        fault("|ka1;");
        fault("|kz1;");
        fault("|ks");
        fault("|khs 1;");
        fault("k1;|hh0 1;");
        fault("k|`1;");
        fault("k|{1;");
        fault("k |k1;");
        fault("k1|a;");
        fault("k1|z;");
    }

    private static void numbers() {
        check.of("TOKENS are NUMBERS and ;");
        items(3, "k9;k9;h1 0;");
        fault("k|11;");
        fault("k1 |1;");
        fault("k|/1;");
        fault("k|:1;");
        fault("k1|:");
        fault("k1|<");
        fault("k|-1;");
        fault("k|+1;");
    }

    private static void firstToken() {
        check.of("FAULT: the place of the first byte of the first TOKEN that can't stand there");
        fault("|x1;k0;");
        fault("k|0;x1;");
        fault("k1;  |x1;k0;");
        fault("k1;k1;h0  |99 x");
        fault("k|0 01 !");
        fault("k|99");
        fault("|zz!");
        fault("k |k 100;");
        fault(" ".repeat(119) + "|x");
        fault(" ".repeat(119) + "k|");
        fault("k1;" + " ".repeat(114) + "|xyz");
    }

    private static void lettersThatBeginNoItem() {
        check.of("FAULT: letters that begin no ITEM");
        for (char c = 'a'; c <= 'z'; c++) {
            if (c == 'k' || c == 's') {
                items(1, c + "1;");
            } else if (c == 'h') {
                items(3, "k1;k1;h0 1;");
            } else {
                fault("|" + c + "1;");
                fault("k1;|" + c + "0 1;");
            }
        }
    }

    private static void seventhKeeper() {
        check.of("FAULT: a seventh keeper");
        items(6, SIX);
        fault(SIX + "|k1;");
        fault(SIX + " |k0;");
        fault(SIX + "s1;|k");
    }

    private static void ninthHate() {
        check.of("FAULT: a ninth h");
        String eight = "k1;k1;k1;" + "h0 1;h2 1;".repeat(4);
        items(11, eight);
        fault(eight + "|h0 2;");
        fault(eight + "  |h9;");
        fault(eight + "|h");
    }

    private static void sightAgain() {
        check.of("FAULT: s again");
        fault("s1;|s1;");
        fault("s0;|s5;");
        fault("s1; |s");
        fault("s5;k1;|s9;");
    }

    private static void numberBeyond() {
        check.of("FAULT: a NUMBER beyond what it may be");
        fault("k|0;");
        fault("k|10;");
        fault("k|99;");
        fault("s|6;");
        fault("s|99;");
        fault("h|0 0;");
        fault("k1;h|1 0;");
        fault("k1;h|99 0;");
        fault("k1;k1;h1 |2;");
        fault("k1;k1;h1 |99;");
    }

    private static void byteThatBeginsNone() {
        check.of("FAULT: of a byte that begins none, that TOKEN's");
        for (int c = 0; c <= 255; c++) {
            boolean begins = c >= 'a' && c <= 'z' || c >= '0' && c <= '9' || c == ';' || c == ' ';
            if (!begins) {
                String other = Character.toString((char) c);
                check.due("byte " + c + " where an item may begin", -13, Check.read("s1;" + other));
                check.due("byte " + c + " where a number is due", -11, Check.read("k" + other + "1;"));
                check.due("byte " + c + " where the end is due", -12, Check.read("k1" + other));
            }
        }
    }

    private static void numberAbove99() {
        check.of("FAULT: of a NUMBER above 99, that TOKEN's");
        fault("k|100;");
        fault("k|101;");
        fault("s|256;");
        fault("k|257;");
        fault("s|65536;");
        fault("k|65537;");
        fault("s|4294967296;");
        fault("k|4294967297;");
        fault("k|18446744073709551617;");
        fault("k|" + "1".repeat(119));
        fault("k1;k1;h|100 1;");
        fault("k1;k1;h0 |4294967297;");
    }

    private static void zeroAhead() {
        check.of("FAULT: of a NUMBER with a 0 ahead of others, that TOKEN's");
        items(4, "k1;k1;h0 1;s0;");
        items(3, "k1;k1;h1 0;");
        fault("k|01;");
        fault("k|09;");
        fault("s|00;");
        fault("s|01;");
        fault("k1;k1;h|00 1;");
        fault("k1;k1;h0 |01;");
        fault("k1;k1;h1 |00;");
        fault("k|0000000001;");
        fault("k|010;");
    }

    private static void endsTooEarly() {
        check.of("FAULT: the text's length, if it ends too early");
        String whole = "k1; k2;h0 1 ;s3;";
        int ends = 0;
        for (int length = 0; length <= whole.length(); length++) {
            String text = whole.substring(0, length);
            boolean endsAnItem = text.isBlank() || text.trim().endsWith(";");
            if (endsAnItem) {
                ends++;
                items((int) text.chars().filter(c -> c == ';').count(), text);
            } else {
                fault(text + "|");
                fault(text + "   |");
            }
        }
        check.due("texts that end well", 6, ends);
        fault(" ".repeat(119) + "k|");
    }

    private static void promise1() {
        check.of("LightKeepers(): As told; no KEEPERS, no ROCKS");
        LightKeepers x = new LightKeepers();
        check.dueCounts(x, 0, 0, 1, 0, 0, 0);
        check.dueNows(x, 0, 0, 0, 0, 0, 0);
        check.due("trace()", 0, x.trace());
        check.due("keeper(0, 0)", -1, x.keeper(0, 0));
        check.due("rock(0)", -1, x.rock(0));
        check.due("undo()", -2, x.undo());
        check.due("back(0)", -2, x.back(0));
        check.due("back(1)", -2, x.back(1));
        check.due("moon(1)", -1, x.moon(1));
        check.due("homeward(0, 0)", 0, x.homeward(0, 0));
        check.due("homeward(1, 1)", -9, x.homeward(1, 1));
        check.due("trade(0, 1, 0)", -1, x.trade(0, 1, 0));
        check.due("ship(1, 1)", 0, x.ship(1, 1));
        check.due("odds(0, 1, 0)", -1, x.odds(0, 1, 0));
        check.due("saw(0, 1)", -1, x.saw(0, 1));
        check.due("forget()", 0, x.forget());
        check.due("fits(-1)", 1, x.fits(-1));
        check.due("fits(0)", -1, x.fits(0));
        check.due("mark(0, 0)", -1000000, x.mark(0, 0));
        check.due("puts(0, 1)", -1, x.puts(0, 1));
        check.due("clear()", 0, x.clear());
        check.due("moon(0)", 0, x.moon(0));
        check.due("keep(1)", 1, x.keep(1));
        String toldNothing = Probe.all(Check.coast(""));
        check.due("all, as by a text that tells nothing", toldNothing, Probe.all(new LightKeepers()));
    }

    private static void promise2Byte() {
        check.of("type: A byte (0 .. 255) comes to THE TEXT: how many it has");
        LightKeepers x = new LightKeepers();
        for (int length = 1; length <= 120; length++) {
            int c = length == 1 ? 0 : length == 2 ? 255 : 97 + length;
            check.due("type(" + c + ")", length, x.type(c));
            check.due("count(5)", length, x.count(5));
        }
    }

    private static void promise2Bad() {
        check.of("type: BAD");
        int[] bad = {-1, 256, 256 + 'k', 'k' - 256, 65536 + 'k', Integer.MIN_VALUE, Integer.MAX_VALUE};
        for (int c : bad) {
            check.changesNothing("type(" + c + ")", -1, Check::busy, x -> x.type(c));
        }
    }

    private static LightKeepers withFullText() {
        LightKeepers x = Check.coast("k1;k2;");
        Check.type(x, "k3;" + BLANKS_99 + " ".repeat(18));
        return x;
    }

    private static void promise2Full() {
        check.of("type: FULL");
        check.due("count(5)", 120, withFullText().count(5));
        check.changesNothing("type(0)", -3, CoastTest::withFullText, x -> x.type(0));
        check.changesNothing("type(32)", -3, CoastTest::withFullText, x -> x.type(32));
        check.changesNothing("type(255)", -3, CoastTest::withFullText, x -> x.type(255));
        LightKeepers x = withFullText();
        x.clear();
        check.due("type(32) after clear()", 1, x.type(32));
        LightKeepers y = withFullText();
        y.coast();
        check.due("type(32) after coast()", 1, y.type(32));
    }

    private static void promise3() {
        check.of("clear: THE TEXT is empty: how many bytes it had");
        LightKeepers x = new LightKeepers();
        check.due("clear() of none", 0, x.clear());
        Check.type(x, "k1;");
        check.due("clear() of three", 3, x.clear());
        check.due("count(5)", 0, x.count(5));
        check.due("clear() again", 0, x.clear());
        check.due("coast()", 0, x.coast());
        check.due("count(0)", 0, x.count(0));
        LightKeepers full = withFullText();
        check.due("clear() of a full text", 120, full.clear());
        Check.type(full, "k");
        check.due("typed anew: coast()", -11, full.coast());
        LightKeepers busy = Check.busy();
        busy.clear();
        Check.type(busy, "k4;k");
        check.due("nothing else is changed", Probe.all(Check.busy()), Probe.all(busy));
    }

    private static void promise4Items() {
        check.of("coast: THE TEXT tells all: how many ITEMS");
        items(0, "");
        items(1, "s5;");
        items(1, "k1;");
        items(6, SIX);
        items(15, SIX + "h0 1;h0 2;h0 3;h0 4;h0 5;h1 2;h1 3;h1 4;s0;");
    }

    private static void promise4Empty() {
        check.of("coast: THE TEXT is empty then");
        LightKeepers x = new LightKeepers();
        Check.type(x, "k1;");
        x.coast();
        check.due("count(5)", 0, x.count(5));
        check.due("clear()", 0, x.clear());
        Check.type(x, "k2;k3;");
        x.coast();
        check.due("nothing of the first text is left: count(0)", 2, x.count(0));
        check.due("coast() of the empty text", 0, x.coast());
    }

    private static void promise4Fault() {
        check.of("coast: -10 less FAULT");
        check.due("a fault at 0", -10, Check.read("x"));
        check.due("a fault at 1", -11, Check.read("k"));
        check.due("a fault at 119", -129, Check.read(" ".repeat(119) + "x"));
        check.due("a fault at 120", -130, Check.read(" ".repeat(119) + "k"));
    }

    private static LightKeepers busyWith(String text) {
        LightKeepers x = Check.busy();
        x.clear();
        Check.type(x, text);
        return x;
    }

    private static void promise4FaultChangesNothing() {
        check.of("coast: -10 less FAULT: nothing changes (THE TEXT, too, stays)");
        String[] faulty = {"x", "k5;k6;k7;h0 1;h1 2;s5;k", "k9;x", "s0;h0 1;", "k1;k1;k1;k1;k1;k1;k1;"};
        int[] places = {0, 23, 3, 4, 18};
        for (int i = 0; i < faulty.length; i++) {
            String text = faulty[i];
            check.changesNothing("coast() of " + text, -10 - places[i], () -> busyWith(text), x -> x.coast());
        }
        LightKeepers x = busyWith("k5;k");
        check.due("coast()", -14, x.coast());
        check.due("count(5)", 4, x.count(5));
        Check.type(x, "7;");
        check.due("the text goes on: coast()", 2, x.coast());
        check.due("keeper(1, 0)", 7, x.keeper(1, 0));
    }

    private static void promise4FaultLeavesNoTrace() {
        check.of("coast: -10 less FAULT: nothing changes; what is read next is read from its first byte");
        String full = SIX + "h0 1;".repeat(8) + "s1;";
        for (String fault : new String[] {"", "x", "!", "k", ";", "100", "00", "kk", "k1 ", "h", "s", "  7"}) {
            LightKeepers x = new LightKeepers();
            Check.type(x, full + fault);
            int due = fault.isEmpty() ? 15 : -10 - full.length() - fault.indexOf(fault.trim());
            check.due("coast() of all and " + fault, due, x.coast());
            x.clear();
            Check.type(x, full);
            check.due("after " + fault + ": coast() of as many", 15, x.coast());
            Check.type(x, full + fault);
            x.coast();
            x.clear();
            Check.type(x, "k1;k1;");
            check.due("after " + fault + ": coast() of less", 2, x.coast());
            check.dueCounts(x, 2, 0, 1, 0, 0, 0);
            check.due("after " + fault + ": keeper(0, 4)", 0, x.keeper(0, 4));
        }
    }

    /** An object in which there was something of all, ahead of a new text. */
    private static LightKeepers anew(String text) {
        LightKeepers x = busyWith(text);
        if (x.coast() < 0) {
            throw new IllegalStateException("the test's text has a fault: " + text);
        }
        return x;
    }

    private static void anewAsTold() {
        check.of("Read anew: as told");
        LightKeepers x = anew("k7;k8;h1 0;s0;");
        check.dueCounts(x, 2, 1, 0, 0, 0, 0);
        check.due("keeper(0, 0)", 7, x.keeper(0, 0));
        check.due("keeper(1, 0)", 8, x.keeper(1, 0));
        check.due("keeper(1, 4)", 1, x.keeper(1, 4));
        check.due("keeper(2, 0)", -1, x.keeper(2, 0));
        check.due("rock(2)", -1, x.rock(2));
        check.due("moon(2)", -1, x.moon(2));
        check.due("fewer than ahead of it: fits(-1)", 2, x.fits(-1));
        x.moon(0);
        check.due("fewer than ahead of it: now(1)", 15, x.now(1));
        check.due("more than ahead of it: fits(-1)", 720, anew(SIX).fits(-1));
        check.due("as many as ahead of it: fits(-1)", 24, anew("k1;k1;k1;k1;").fits(-1));
    }

    private static void anewAsAtFirst() {
        check.of("Read anew: what is not told as at first");
        LightKeepers x = anew("k7;k8;k9;");
        check.dueCounts(x, 3, 0, 1, 0, 0, 0);
        check.dueNows(x, 0, 0, 0, 0, 0, 1);
        for (int k = 0; k <= 2; k++) {
            check.due("keeper(" + k + ", 3)", 0, x.keeper(k, 3));
            check.due("keeper(" + k + ", 4)", 0, x.keeper(k, 4));
        }
    }

    private static void anewAtHome() {
        check.of("Read anew: all at HOME");
        check.dueWho("as many keepers", "0123", anew("k1;k1;k1;k1;"));
        check.dueWho("more keepers", "012345", anew(SIX));
        check.dueWho("fewer keepers", "01", anew("k1;k1;"));
        check.due("now(4)", 0, anew(SIX).now(4));
    }

    private static void anewNothingSeen() {
        check.of("Read anew: nothing SEEN");
        LightKeepers x = anew("k1;k1;");
        check.due("count(3)", 0, x.count(3));
        check.due("fits(-1)", 2, x.fits(-1));
        check.due("forget()", 0, x.forget());
    }

    private static void anewNothingToBeUndone() {
        check.of("Read anew: nothing to be UNDONE");
        LightKeepers x = anew("k1;k1;");
        check.due("count(4)", 0, x.count(4));
        check.due("undo()", -2, x.undo());
    }

    private static void anewNoImages() {
        check.of("Read anew: IMAGES are gone");
        LightKeepers x = Check.busy();
        x.keep(0);
        x.keep(1);
        Check.again(x, "k1;k2;k3;k1;h0 1;s2;");
        check.due("back(0)", -2, x.back(0));
        check.due("back(1)", -2, x.back(1));
    }

    private static void anewTrace() {
        check.of("Read anew: THE TRACE stays");
        LightKeepers x = anew("k1;");
        check.due("trace()", 100001, x.trace());
        x.mark(0, 0);
        check.due("trace() goes on", 100002, x.trace());
    }

    private static void promise5() {
        check.of("keeper: 0 FLASH, 1 his ROCK, 2 DRIFT, 3 whether he is OUT");
        LightKeepers x = Check.after("k2;k9;k4;", 1, 2);
        x.puts(2, 1);
        int[][] due = {{2, 2, 2, 0}, {9, 0, 1, 0}, {4, 1, 1, 1}};
        for (int k = 0; k <= 2; k++) {
            for (int what = 0; what <= 3; what++) {
                check.due("keeper(" + k + ", " + what + ")", due[k][what], x.keeper(k, what));
            }
        }
        LightKeepers far = Check.after(SIX, 1, 2, 4, 8, 16);
        check.due("keeper(0, 2), farthest", 5, far.keeper(0, 2));
    }

    private static void promise5Hates() {
        check.of("keeper: 4 whom he HATES, or who HATES him (bits)");
        LightKeepers x = Check.coast(SIX + "h0 5;h5 1;h2 5;h3 5;h5 4;h2 1;");
        int[] due = {32, 36, 34, 32, 32, 31};
        for (int k = 0; k <= 5; k++) {
            check.due("keeper(" + k + ", 4)", due[k], x.keeper(k, 4));
        }
        check.due("nobody", 0, Check.coast(SIX).keeper(0, 4));
    }

    private static void promise5Bad() {
        check.of("keeper: BAD");
        for (int k : new int[] {-1, 4, 6, 32, -32, 256, Integer.MIN_VALUE, Integer.MAX_VALUE}) {
            check.changesNothing("keeper(" + k + ", 0)", -1, Check::busy, x -> x.keeper(k, 0));
            check.changesNothing("keeper(" + k + ", 3)", -1, Check::busy, x -> x.keeper(k, 3));
        }
        for (int what : new int[] {-1, 5, Integer.MIN_VALUE, Integer.MAX_VALUE}) {
            check.changesNothing("keeper(0, " + what + ")", -1, Check::busy, x -> x.keeper(0, what));
        }
        check.due("no keepers: keeper(0, 4)", -1, new LightKeepers().keeper(0, 4));
    }

    private static void promise6() {
        check.of("rock: Who is at a ROCK");
        LightKeepers x = Check.after(SIX, 1, 2, 16);
        int[] due = {1, 2, 0, 3, 5, 4};
        for (int r = 0; r <= 5; r++) {
            check.due("rock(" + r + ")", due[r], x.rock(r));
        }
    }

    private static void promise6Bad() {
        check.of("rock: BAD");
        for (int r : new int[] {-1, 4, 5, 6, 32, -32, 256, Integer.MIN_VALUE, Integer.MAX_VALUE}) {
            check.changesNothing("rock(" + r + ")", -1, Check::busy, x -> x.rock(r));
        }
        check.due("no rocks: rock(0)", -1, new LightKeepers().rock(0));
    }
}
