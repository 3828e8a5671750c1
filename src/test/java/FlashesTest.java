/** Promises 13 to 17: ship, odds, saw, forget, fits. */
public final class FlashesTest {
    private static final Check check = new Check();

    public static void main(String[] args) {
        promise13Ship();
        promise13ShipRefused();
        promise14Odds();
        promise14OddsOfLightsThatAreOut();
        promise14OddsRefused();
        promise15Saw();
        promise16Forget();
        promise17Fits();
        promise17FitsSure();
        promise17FitsWhoever();
        check.end();
    }

    private static void promise13Ship() {
        LightKeepers x = Check.coast("k1;k2;k1;k2;k2;k9;");
        check.due("ship(1, 2)", 5, x.ship(1, 2));
        check.due("ship(2, 1)", 2, x.ship(2, 1));
        check.due("ship(2, 2)", 8, x.ship(2, 2));
        check.due("ship(2, 9)", 16, x.ship(2, 9));
        check.due("ship(9, 2)", 0, x.ship(9, 2));
        check.due("ship(1, 1)", 0, x.ship(1, 1));
        check.due("ship(3, 4)", 0, x.ship(3, 4));
        x.puts(1, 1);
        check.due("1 out: ship(1, 2)", 4, x.ship(1, 2));
        check.due("1 out: ship(2, 1)", 0, x.ship(2, 1));
        x.puts(2, 1);
        check.due("2 out: ship(1, 2)", 0, x.ship(1, 2));
        x.puts(1, 0);
        check.due("1 not out: ship(1, 2)", 1, x.ship(1, 2));
        x.moon(1);
        check.due("moved: ship(1, 2)", 0, x.ship(1, 2));
        check.due("moved: ship(2, 1)", 1, x.ship(2, 1));
        x.moon(2);
        check.dueWho("1, 2", "120345", x);
        check.due("his light goes with him: ship(2, 1)", 0, x.ship(2, 1));
        check.due("his light goes with him: ship(1, 2)", 4, x.ship(1, 2));
        check.due("one rock: ship(1, 1)", 0, Check.coast("k1;").ship(1, 1));
        check.due("three alike: ship(1, 1)", 3, Check.coast("k1;k1;k1;").ship(1, 1));
        check.due("sight 0: ship(1, 1)", 3, Check.coast("k1;k1;k1;s0;").ship(1, 1));
    }

    private static void promise13ShipRefused() {
        LightKeepers x = new LightKeepers();
        int[] bad = {-1, 0, 10, Integer.MIN_VALUE, Integer.MAX_VALUE};
        for (int flash : bad) {
            check.due("ship(" + flash + ", 1)", -1, x.ship(flash, 1));
            check.due("ship(1, " + flash + ")", -1, x.ship(1, flash));
        }
        check.due("no rocks: ship(9, 9)", 0, x.ship(9, 9));
    }

    private static void odds(LightKeepers x, int r, int fog, int upper, int lower) {
        check.due("odds(" + r + ", " + fog + ", 0)", upper, x.odds(r, fog, 0));
        check.due("odds(" + r + ", " + fog + ", 1)", lower, x.odds(r, fog, 1));
    }

    private static void promise14Odds() {
        LightKeepers x = Check.coast("k1;k2;k3;k4;k5;k6;s2;");
        odds(x, 0, 5, 7, 8);
        odds(x, 1, 5, 15, 16);
        odds(x, 2, 5, 31, 32);
        odds(x, 3, 5, 31, 32);
        odds(x, 5, 5, 7, 8);
        odds(x, 5, 9, 271, 1000);
        odds(x, 0, 2, 124, 125);
        odds(x, 0, 0, 1, 1);
        odds(x, 2, 0, 1, 1);
        odds(x, 0, 10, 0, 1);
        LightKeepers near = Check.coast("k1;k2;s0;");
        odds(near, 0, 4, 3, 5);
        odds(near, 1, 3, 7, 10);
        LightKeepers far = Check.coast("k1;k1;k1;k1;k1;k1;s5;");
        odds(far, 0, 9, 468559, 1000000);
        odds(far, 5, 1, 999999, 1000000);
        odds(far, 3, 8, 11529, 15625);
    }

    private static void promise14OddsOfLightsThatAreOut() {
        LightKeepers x = Check.coast("k1;k2;k3;");
        x.puts(1, 1);
        odds(x, 0, 3, 7, 10);
        odds(x, 1, 3, 91, 100);
        x.moon(1);
        odds(x, 2, 3, 91, 100);
        x.puts(0, 1);
        odds(x, 0, 3, 0, 1);
        odds(x, 0, 0, 0, 1);
        odds(x, 0, 10, 0, 1);
        odds(x, 2, 0, 1, 1);
        x.puts(2, 1);
        odds(x, 2, 0, 0, 1);
    }

    private static void promise14OddsRefused() {
        LightKeepers x = Check.coast("k1;k2;");
        check.due("odds(-1, 5, 0)", -1, x.odds(-1, 5, 0));
        check.due("odds(2, 5, 0)", -1, x.odds(2, 5, 0));
        check.due("odds(0, -1, 0)", -1, x.odds(0, -1, 0));
        check.due("odds(0, 11, 0)", -1, x.odds(0, 11, 0));
        check.due("odds(0, 5, -1)", -1, x.odds(0, 5, -1));
        check.due("odds(0, 5, 2)", -1, x.odds(0, 5, 2));
    }

    private static void promise15Saw() {
        LightKeepers x = Check.coast("k1;k2;");
        check.due("saw(-1, 1)", -1, x.saw(-1, 1));
        check.due("saw(2, 1)", -1, x.saw(2, 1));
        check.due("saw(0, 0)", -1, x.saw(0, 0));
        check.due("saw(0, 10)", -1, x.saw(0, 10));
        check.due("count(3) of none", 0, x.count(3));
        for (int i = 1; i <= 6; i++) {
            check.due("saw(0, 1), time " + i, i, x.saw(0, 1));
        }
        check.due("saw(0, 1), time 7", -3, x.saw(0, 1));
        check.due("saw(0, 0) when full", -1, x.saw(0, 0));
        check.due("saw(2, 1) when full", -1, x.saw(2, 1));
        check.due("count(3)", 6, x.count(3));
        check.due("told more than once: fits(-1)", 1, x.fits(-1));
    }

    private static void promise16Forget() {
        LightKeepers x = Check.coast("k1;k2;");
        check.due("forget() of none", 0, x.forget());
        x.saw(0, 2);
        x.saw(0, 1);
        check.due("fits(-1)", 0, x.fits(-1));
        check.due("forget()", 2, x.forget());
        check.due("count(3)", 0, x.count(3));
        check.due("fits(-1) after forget()", 2, x.fits(-1));
        check.due("saw(1, 1) after forget()", 1, x.saw(1, 1));
        check.due("fits(0) after forget()", 1, x.fits(0));
    }

    private static void promise17Fits() {
        int[] orders = {1, 2, 6, 24, 120, 720};
        for (int n = 1; n <= 6; n++) {
            check.due("fits(-1) of " + n, orders[n - 1], Check.coast("k1;".repeat(n)).fits(-1));
        }
        LightKeepers x = Check.coast("k1;k2;k1;");
        check.due("fits(-2)", -1, x.fits(-2));
        check.due("fits(3)", -1, x.fits(3));
        x.saw(0, 1);
        check.due("one seen: fits(-1)", 4, x.fits(-1));
        x.saw(1, 2);
        check.due("two seen: fits(-1)", 2, x.fits(-1));
        x.saw(2, 2);
        check.due("three seen: fits(-1)", 0, x.fits(-1));
        for (int r = 0; r < 3; r++) {
            check.due("three seen: fits(" + r + ")", -9, x.fits(r));
        }
        x.forget();
        x.saw(1, 9);
        check.due("nobody's flash: fits(-1)", 0, x.fits(-1));
        x.forget();
        x.saw(1, 1);
        x.saw(1, 2);
        check.due("two flashes at a rock: fits(-1)", 0, x.fits(-1));
    }

    private static void promise17FitsSure() {
        check.due("one keeper: fits(0)", 0, Check.coast("k1;").fits(0));
        LightKeepers x = Check.coast("k1;k2;k1;k3;");
        check.due("nothing seen: fits(0)", -9, x.fits(0));
        x.saw(3, 2);
        check.due("2 is keeper 1's: fits(3)", 1, x.fits(3));
        check.due("2 is keeper 1's: fits(0)", -9, x.fits(0));
        x.saw(0, 1);
        x.saw(1, 1);
        check.due("one is left: fits(2)", 3, x.fits(2));
        check.due("0 or 2: fits(0)", -9, x.fits(0));
        check.due("0 or 2: fits(1)", -9, x.fits(1));
        check.due("fits(-1)", 2, x.fits(-1));
    }

    private static void promise17FitsWhoever() {
        LightKeepers x = Check.coast("k1;k2;k3;h0 1;h0 2;h1 2;");
        check.due("all hate: fits(-1)", 6, x.fits(-1));
        x.saw(0, 3);
        x.puts(2, 1);
        x.moon(0);
        check.due("out, and not there now: fits(-1)", 2, x.fits(-1));
        check.due("out, and not there now: fits(0)", 2, x.fits(0));
        check.due("nothing is changed: count(3)", 1, x.count(3));
        check.dueWho("fits", "012", x);
    }
}
