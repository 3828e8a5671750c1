/** The document's part 3 and promises 13 to 17: ship, odds, saw, forget, fits. */
public final class FlashesTest {
    private static final String SIX = "k1;k2;k3;k4;k5;k6;";
    private static final int[] NO_FLASHES = {-1, 0, 10, 11, 257, Integer.MIN_VALUE, Integer.MAX_VALUE};
    private static final int[] NO_ROCKS = {-1, 4, 5, 6, 32, 256, Integer.MIN_VALUE, Integer.MAX_VALUE};
    private static final Check check = new Check();

    public static void main(String[] args) {
        check.all(FlashesTest.class);
    }

    private static void ship() {
        check.of("SHIP by FLASHES a, b: ROCKS i (bits) where a is at i, b at the next one");
        LightKeepers x = Check.coast("k1;k2;k1;k2;k2;k9;");
        check.due("ship(1, 2)", 5, x.ship(1, 2));
        check.due("ship(2, 1)", 2, x.ship(2, 1));
        check.due("ship(2, 2)", 8, x.ship(2, 2));
        check.due("ship(2, 9)", 16, x.ship(2, 9));
        check.due("ship(9, 2)", 0, x.ship(9, 2));
        check.due("ship(1, 1)", 0, x.ship(1, 1));
        check.due("ship(3, 4)", 0, x.ship(3, 4));
        check.due("all alike: ship(5, 5)", 31, Check.coast("k5;".repeat(6)).ship(5, 5));
        x.moon(1);
        check.due("where they are now: ship(1, 2)", 4, x.ship(1, 2));
        check.due("where they are now: ship(2, 1)", 1, x.ship(2, 1));
        check.due("where they are now: ship(1, 1)", 2, x.ship(1, 1));
    }

    private static void shipNextOne() {
        check.of("SHIP: b at the next one (the last ROCK has none, whatever is in sight)");
        check.due("no rocks: ship(9, 9)", 0, new LightKeepers().ship(9, 9));
        check.due("one rock: ship(1, 1)", 0, Check.coast("k1;").ship(1, 1));
        check.due("two rocks: ship(1, 1)", 1, Check.coast("k1;k1;").ship(1, 1));
        check.due("last and first: ship(2, 1)", 0, Check.coast("k1;k2;s5;").ship(2, 1));
        check.due("two apart: ship(1, 3)", 0, Check.coast("k1;k2;k3;s5;").ship(1, 3));
        check.due("sight 0: ship(1, 2)", 1, Check.coast("k1;k2;s0;").ship(1, 2));
    }

    private static void shipNeitherOut() {
        check.of("SHIP: neither OUT");
        LightKeepers x = Check.coast("k1;k2;k1;k2;");
        x.puts(1, 1);
        check.due("1 out: ship(1, 2)", 4, x.ship(1, 2));
        check.due("1 out: ship(2, 1)", 0, x.ship(2, 1));
        x.puts(2, 1);
        check.due("1, 2 out: ship(1, 2)", 0, x.ship(1, 2));
        x.puts(1, 0);
        check.due("2 out: ship(1, 2)", 1, x.ship(1, 2));
        check.due("2 out: ship(2, 1)", 0, x.ship(2, 1));
        x.moon(2);
        check.dueWho("moon(2)", "0213", x);
        check.due("it goes with him: ship(1, 1)", 0, x.ship(1, 1));
        check.due("it goes with him: ship(2, 2)", 4, x.ship(2, 2));
    }

    private static void shipBad() {
        check.of("ship: BAD (FLASHES 1 .. 9)");
        for (int flash : NO_FLASHES) {
            check.changesNothing("ship(" + flash + ", 1)", -1, Check::busy, x -> x.ship(flash, 1));
            check.changesNothing("ship(1, " + flash + ")", -1, Check::busy, x -> x.ship(1, flash));
            check.due("no keepers: ship(" + flash + ", 1)", -1, new LightKeepers().ship(flash, 1));
        }
        for (int flash = 1; flash <= 9; flash++) {
            check.due("ship(" + flash + ", 9)", 0, Check.busy().ship(flash, 9));
        }
    }

    private static void seenAtMost() {
        check.of("SEEN (6 at most)");
        LightKeepers x = Check.coast("k1;k2;");
        for (int seen = 1; seen <= 6; seen++) {
            check.due("saw(0, 1)", seen, x.saw(0, 1));
        }
        check.due("saw(0, 1), the 7th", -3, x.saw(0, 1));
        check.due("saw(1, 1), the 7th", -3, x.saw(1, 1));
        check.due("count(3)", 6, x.count(3));
        check.due("fits(-1)", 1, x.fits(-1));
    }

    private static void seenAtARock() {
        check.of("SEEN: at a ROCK a FLASH");
        LightKeepers x = Check.coast("k1;k2;k3;");
        x.saw(2, 1);
        check.due("fits(2)", 0, x.fits(2));
        x.moon(2);
        check.due("whoever is there now: fits(2)", 0, x.fits(2));
        x.saw(0, 3);
        check.due("fits(0)", 2, x.fits(0));
        check.due("fits(1)", 1, x.fits(1));
    }

    private static void fitsHowMany() {
        check.of("FITS: in how many ways all KEEPERS could be at ROCKS (one at each)");
        int[] orders = {1, 1, 2, 6, 24, 120, 720};
        for (int n = 0; n <= 6; n++) {
            check.due("fits(-1) of " + n, orders[n], Check.coast("k1;".repeat(n)).fits(-1));
        }
    }

    private static void fitsAllThatWasSeen() {
        check.of("FITS: so that all that was SEEN is so");
        LightKeepers x = Check.coast("k1;k2;k1;");
        int[] rocks = {0, 0, 1, 2};
        int[] flashes = {1, 1, 2, 2};
        int[] ways = {4, 4, 2, 0};
        for (int i = 0; i < rocks.length; i++) {
            x.saw(rocks[i], flashes[i]);
            check.due("saw(" + rocks[i] + ", " + flashes[i] + "), fits(-1)", ways[i], x.fits(-1));
        }
        x.forget();
        x.saw(1, 9);
        check.due("nobody's flash: fits(-1)", 0, x.fits(-1));
        x.forget();
        x.saw(1, 1);
        x.saw(1, 2);
        check.due("two flashes at a rock: fits(-1)", 0, x.fits(-1));
        for (int other = 0; other <= 5; other++) {
            LightKeepers y = Check.coast("k1;k2;k1;");
            for (int i = 0; i <= 5; i++) {
                y.saw(0, i == other ? 2 : 1);
            }
            check.due("one of six is not so, the " + other + "th: fits(-1)", 0, y.fits(-1));
            check.due("one of six is not so, the " + other + "th: fits(0)", -9, y.fits(0));
        }
        LightKeepers six = Check.coast(SIX);
        int[] left = {120, 24, 6, 2, 1, 1};
        for (int r = 0; r <= 5; r++) {
            six.saw(r, 6 - r);
            check.due("saw(" + r + ", " + (6 - r) + "), fits(-1)", left[r], six.fits(-1));
        }
    }

    private static void fitsWhoeverHatesWhom() {
        check.of("FITS: whoever HATES whom");
        LightKeepers x = Check.coast("k1;k2;k3;h0 1;h0 2;h1 2;");
        check.due("fits(-1)", 6, x.fits(-1));
        x.saw(0, 3);
        check.due("fits(-1)", 2, x.fits(-1));
        check.due("fits(0)", 2, x.fits(0));
    }

    private static void fitsWhoeverIsOut() {
        check.of("(OUT does not matter but where it is told): FITS");
        LightKeepers x = Check.coast("k1;k2;k3;");
        x.puts(0, 1);
        x.puts(2, 1);
        check.due("fits(-1)", 6, x.fits(-1));
        x.saw(1, 1);
        check.due("fits(-1)", 2, x.fits(-1));
        check.due("fits(1)", 0, x.fits(1));
    }

    private static void sure() {
        check.of("SURE of a ROCK: who is there in all of them");
        check.due("one keeper: fits(0)", 0, Check.coast("k1;").fits(0));
        LightKeepers x = Check.coast("k1;k2;k1;k3;");
        x.saw(3, 2);
        check.due("2 is 1's: fits(3)", 1, x.fits(3));
        x.saw(0, 1);
        x.saw(1, 1);
        check.due("one is left: fits(2)", 3, x.fits(2));
        LightKeepers six = Check.coast(SIX);
        for (int r = 0; r <= 4; r++) {
            six.saw(r, 6 - r);
        }
        for (int r = 0; r <= 5; r++) {
            check.due("fits(" + r + ")", 5 - r, six.fits(r));
        }
    }

    private static void sureNotTheSame() {
        check.of("SURE: NONE (not the same in all)");
        check.due("nothing seen: fits(0)", -9, Check.coast("k1;k2;").fits(0));
        LightKeepers x = Check.coast("k1;k2;k1;k3;");
        x.saw(0, 1);
        x.saw(1, 1);
        for (int r = 0; r <= 3; r++) {
            check.due("fits(" + r + ")", -9, x.fits(r));
        }
        LightKeepers alike = Check.coast("k4;k4;");
        alike.saw(0, 4);
        check.due("alike: fits(0)", -9, alike.fits(0));
    }

    private static void sureThereAreNone() {
        check.of("SURE: NONE (there are none)");
        LightKeepers one = Check.coast("k1;");
        one.saw(0, 2);
        check.due("fits(-1)", 0, one.fits(-1));
        check.due("fits(0)", -9, one.fits(0));
        LightKeepers x = Check.coast("k1;k2;k3;");
        x.saw(0, 1);
        x.saw(1, 1);
        for (int r = 0; r <= 2; r++) {
            check.due("fits(" + r + ")", -9, x.fits(r));
        }
    }

    private static void odds(LightKeepers x, int r, int fog, int upper, int lower) {
        check.due("odds(" + r + ", " + fog + ", 0)", upper, x.odds(r, fog, 0));
        check.due("odds(" + r + ", " + fog + ", 1)", lower, x.odds(r, fog, 1));
    }

    private static void oddsInSight() {
        check.of("ODDS: that from there at least one is seen at a ROCK in sight");
        LightKeepers x = Check.coast(SIX + "s2;");
        int[] upper = {7, 15, 31, 31, 15, 7};
        for (int r = 0; r <= 5; r++) {
            odds(x, r, 5, upper[r], upper[r] + 1);
        }
        for (int sight = 0; sight <= 5; sight++) {
            int lower = 2 << sight;
            odds(Check.coast(SIX + "s" + sight + ";"), 0, 5, lower - 1, lower);
            odds(Check.coast(SIX + "s" + sight + ";"), 5, 5, lower - 1, lower);
        }
        odds(Check.coast("k1;k1;k1;"), 0, 5, 3, 4);
        odds(Check.coast("k1;k1;k1;"), 1, 5, 7, 8);
    }

    private static void oddsItsOwn() {
        check.of("ODDS: a ROCK in sight (its own, too)");
        LightKeepers x = Check.coast("k1;k2;s0;");
        odds(x, 0, 4, 3, 5);
        odds(x, 1, 3, 7, 10);
        x.puts(0, 1);
        odds(x, 0, 3, 0, 1);
        odds(x, 1, 3, 7, 10);
        odds(Check.coast("k1;"), 0, 9, 1, 10);
    }

    private static void oddsNotOut() {
        check.of("ODDS: each light that is not OUT");
        LightKeepers x = Check.coast("k1;k2;k3;");
        x.puts(1, 1);
        odds(x, 0, 3, 7, 10);
        odds(x, 1, 3, 91, 100);
        odds(x, 2, 3, 7, 10);
        x.moon(1);
        odds(x, 0, 3, 7, 10);
        odds(x, 2, 3, 91, 100);
        x.puts(1, 0);
        odds(x, 0, 3, 91, 100);
    }

    private static void oddsNeverHidden() {
        check.of("ODDS by x (0 .. 10): 0 in 10");
        LightKeepers x = Check.coast(SIX + "s5;");
        for (int r = 0; r <= 5; r++) {
            odds(x, r, 0, 1, 1);
            x.puts(r, 1);
        }
        odds(x, 0, 0, 0, 1);
    }

    private static void oddsAlwaysHidden() {
        check.of("ODDS by x (0 .. 10): 10 in 10");
        LightKeepers x = Check.coast(SIX + "s5;");
        for (int r = 0; r <= 5; r++) {
            odds(x, r, 10, 0, 1);
        }
        odds(Check.coast("k1;"), 0, 10, 0, 1);
    }

    private static void oddsNoLights() {
        check.of("ODDS: that at least one is seen (where all in sight are OUT)");
        LightKeepers x = Check.coast("k1;k2;k3;");
        x.puts(0, 1);
        x.puts(1, 1);
        for (int fog = 0; fog <= 10; fog++) {
            odds(x, 0, fog, 0, 1);
        }
        odds(x, 1, 5, 1, 2);
        odds(x, 2, 0, 1, 1);
    }

    private static void oddsLeastTerms() {
        check.of("odds: upper (what = 0), lower number (1), in least terms");
        LightKeepers one = Check.coast("k1;");
        int[] upper = {1, 9, 4, 7, 3, 1, 2, 3, 1, 1, 0};
        int[] lower = {1, 10, 5, 10, 5, 2, 5, 10, 5, 10, 1};
        for (int fog = 0; fog <= 10; fog++) {
            odds(one, 0, fog, upper[fog], lower[fog]);
        }
        LightKeepers six = Check.coast("k1;k1;k1;k1;k1;k1;s5;");
        odds(six, 0, 9, 468559, 1000000);
        odds(six, 5, 1, 999999, 1000000);
        odds(six, 3, 8, 11529, 15625);
        odds(six, 2, 5, 63, 64);
        odds(six, 1, 2, 15624, 15625);
    }

    private static void oddsBad() {
        check.of("odds: BAD (x 0 .. 10; what 0, 1)");
        for (int r : NO_ROCKS) {
            check.changesNothing("odds(" + r + ", 5, 0)", -1, Check::busy, x -> x.odds(r, 5, 0));
        }
        for (int fog : new int[] {-1, 11, 12, 256, Integer.MIN_VALUE, Integer.MAX_VALUE}) {
            check.changesNothing("odds(0, " + fog + ", 0)", -1, Check::busy, x -> x.odds(0, fog, 0));
            check.changesNothing("odds(0, " + fog + ", 1)", -1, Check::busy, x -> x.odds(0, fog, 1));
        }
        for (int what : new int[] {-1, 2, 3, 256, Integer.MIN_VALUE, Integer.MAX_VALUE}) {
            check.changesNothing("odds(0, 5, " + what + ")", -1, Check::busy, x -> x.odds(0, 5, what));
        }
        check.due("no rocks: odds(0, 5, 0)", -1, new LightKeepers().odds(0, 5, 0));
    }

    private static void sawHowMuch() {
        check.of("saw: SEEN: how much there is");
        LightKeepers x = Check.coast(SIX);
        int[] rocks = {0, 5, 3, 3, 0, 5};
        int[] flashes = {1, 9, 1, 1, 2, 9};
        for (int i = 0; i <= 5; i++) {
            check.due("saw(" + rocks[i] + ", " + flashes[i] + ")", i + 1, x.saw(rocks[i], flashes[i]));
            check.due("count(3)", i + 1, x.count(3));
        }
    }

    private static void sawBad() {
        check.of("saw: BAD");
        for (int r : NO_ROCKS) {
            check.changesNothing("saw(" + r + ", 1)", -1, Check::busy, x -> x.saw(r, 1));
        }
        for (int flash : NO_FLASHES) {
            check.changesNothing("saw(0, " + flash + ")", -1, Check::busy, x -> x.saw(0, flash));
        }
        check.due("no rocks: saw(0, 1)", -1, new LightKeepers().saw(0, 1));
    }

    private static LightKeepers seenSix() {
        LightKeepers x = Check.busy();
        x.forget();
        for (int i = 0; i < 6; i++) {
            x.saw(i % 2, 1);
        }
        return x;
    }

    private static void sawFull() {
        check.of("saw: FULL");
        check.changesNothing("saw(0, 1)", -3, FlashesTest::seenSix, x -> x.saw(0, 1));
        check.changesNothing("saw(3, 9)", -3, FlashesTest::seenSix, x -> x.saw(3, 9));
        LightKeepers x = seenSix();
        x.forget();
        check.due("after forget(): saw(3, 9)", 1, x.saw(3, 9));
    }

    private static void sawBadAheadOfFull() {
        check.of("saw: the first of these: BAD, FULL");
        check.due("saw(0, 0)", -1, seenSix().saw(0, 0));
        check.due("saw(0, 10)", -1, seenSix().saw(0, 10));
        check.due("saw(4, 1)", -1, seenSix().saw(4, 1));
        check.due("saw(-1, 1)", -1, seenSix().saw(-1, 1));
    }

    private static void forget() {
        check.of("forget: Nothing was SEEN: how much there was");
        LightKeepers x = Check.coast("k1;k2;");
        check.due("forget() of none", 0, x.forget());
        x.saw(0, 2);
        x.saw(0, 1);
        check.due("forget() of two", 2, x.forget());
        check.due("count(3)", 0, x.count(3));
        check.due("fits(-1)", 2, x.fits(-1));
        check.due("forget() again", 0, x.forget());
        check.due("saw(1, 1)", 1, x.saw(1, 1));
        check.due("fits(-1)", 1, x.fits(-1));
        check.due("forget() of six", 6, seenSix().forget());
        check.due("a new object: forget()", 0, new LightKeepers().forget());
    }

    private static void forgetNothingElse() {
        check.of("forget: Nothing was SEEN (nothing else is changed)");
        LightKeepers x = Check.busy();
        x.forget();
        x.saw(0, 1);
        x.saw(3, 2);
        check.due("all, seen once more", Probe.all(Check.busy()), Probe.all(x));
    }

    private static void fitsBad() {
        check.of("fits: how many (r = -1), SURE of a ROCK; BAD");
        for (int r : new int[] {-2, -3, 4, 5, 6, 32, 256, Integer.MIN_VALUE, Integer.MAX_VALUE}) {
            check.changesNothing("fits(" + r + ")", -1, Check::busy, x -> x.fits(r));
        }
        check.due("no rocks: fits(0)", -1, new LightKeepers().fits(0));
        check.due("no rocks: fits(-2)", -1, new LightKeepers().fits(-2));
        check.due("no rocks: fits(-1)", 1, new LightKeepers().fits(-1));
    }

    private static void nothingIsChanged() {
        check.of("(Nothing is changed): ship, odds, fits");
        check.dueWho("busy()", "0312", Check.busy());
        check.changesNothing("ship(1, 2)", 0, Check::busy, x -> x.ship(1, 2));
        check.changesNothing("odds(3, 1, 1)", 10, Check::busy, x -> x.odds(3, 1, 1));
        check.changesNothing("fits(-1)", 4, Check::busy, x -> x.fits(-1));
        check.changesNothing("fits(3)", 1, Check::busy, x -> x.fits(3));
    }
}
