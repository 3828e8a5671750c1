import java.util.ArrayList;
import java.util.List;
import java.util.Random;

/** All promises: runs of calls that are always the same random ones, compared with PlainKeepers. */
public final class RandomRunsTest {
    private static final int RUNS = 300;
    /** An object is used for 512 calls at most; a text and its coast() are the most at once. */
    private static final int CALLS = 512 - 125;
    private static int wrong = 0;
    private static long asked = 0;

    private final Random random;
    private final LightKeepers x = new LightKeepers();
    private final PlainKeepers plain = new PlainKeepers();
    private final List<String> calls = new ArrayList<>();
    private boolean failed = false;

    private RandomRunsTest(long seed) {
        random = new Random(seed);
    }

    public static void main(String[] args) {
        for (int seed = 1; seed <= RUNS && wrong < 5; seed++) {
            new RandomRunsTest(seed).run();
        }
        System.out.println(asked + " answers, " + wrong + " runs wrong");
        if (wrong > 0) {
            System.exit(1);
        }
    }

    private void run() {
        int slow = 0;
        while (calls.size() < CALLS && !failed) {
            if (random.nextInt(60) == 0 || calls.isEmpty()) {
                text();
            } else if (random.nextInt(12) == 0 && slow < 25) {
                slow++;
                search();
            } else {
                call(random.nextInt(16));
            }
        }
        if (failed) {
            wrong++;
            System.out.println("of " + calls.size() + " calls: " + calls + "; " + plain);
        }
    }

    private void due(String call, long want, long got) {
        calls.add(call);
        asked++;
        if (want != got && !failed) {
            failed = true;
            System.out.println(call + " answered " + got + ", due is " + want);
        }
    }

    /** From -1 to one beyond the most, mostly within. */
    private int number(int most) {
        return random.nextInt(20) == 0 ? random.nextInt(most + 3) - 1 : random.nextInt(most + 1);
    }

    private String blanks() {
        return " ".repeat(random.nextInt(8) == 0 ? random.nextInt(3) : 0);
    }

    private String item(int keepers) {
        int kind = random.nextInt(12);
        if (kind < 8 || keepers == 0) {
            return "k" + blanks() + (1 + random.nextInt(random.nextBoolean() ? 3 : 9)) + blanks() + ";";
        }
        if (kind == 8 && random.nextInt(3) == 0) {
            return "s" + blanks() + random.nextInt(6) + ";";
        }
        return "h" + blanks() + random.nextInt(keepers) + " " + random.nextInt(keepers) + ";";
    }

    private void text() {
        StringBuilder text = new StringBuilder();
        int items = random.nextInt(14);
        int keepers = 0;
        for (int i = 0; i < items; i++) {
            text.append(blanks()).append(item(keepers));
            keepers = Math.min(6, (int) text.chars().filter(c -> c == 'k').count());
        }
        String often = "kkk0123456789;;; hs!Kz\u00ff";
        for (int i = random.nextInt(4); i > 0 && random.nextInt(3) == 0 && text.length() > 0; i--) {
            char c = often.charAt(random.nextInt(often.length()));
            text.setCharAt(random.nextInt(text.length()), c);
        }
        for (char c : text.toString().toCharArray()) {
            due("type(" + (int) c + ")", plain.type(c), x.type(c));
        }
        due("coast()", plain.coast(), x.coast());
        if (plain.count(5) > 0 && random.nextInt(4) > 0) {
            due("clear()", plain.clear(), x.clear());
        }
    }

    private void search() {
        int safe = number(1);
        int what = number(1);
        int k = number(5);
        int l = number(5);
        if (random.nextInt(3) == 0) {
            due("trade(" + k + ", " + l + ", " + safe + ")", plain.trade(k, l, safe), x.trade(k, l, safe));
        } else {
            due("homeward(" + safe + ", " + what + ")", plain.homeward(safe, what), x.homeward(safe, what));
        }
    }

    private void call(int which) {
        int a = number(5);
        int b = number(8) + 1;
        switch (which) {
            case 0, 1, 2 -> {
                int change = number((1 << Math.max(0, plain.count(0) - 1)) - 1);
                change = random.nextBoolean() ? change & ~(change >> 1) : change;
                due("moon(" + change + ")", plain.moon(change), x.moon(change));
            }
            case 3 -> {
                int is = number(1);
                due("puts(" + a + ", " + is + ")", plain.puts(a, is), x.puts(a, is));
            }
            case 4 -> undoSome();
            case 5 -> due("now(" + a + ")", plain.now(a), x.now(a));
            case 6 -> due("keeper(" + a + ", " + (b - 2) + ")", plain.keeper(a, b - 2), x.keeper(a, b - 2));
            case 7 -> due("rock(" + a + ")", plain.rock(a), x.rock(a));
            case 8 -> {
                int f = 1 + number(2);
                int g = 1 + number(2);
                due("ship(" + f + ", " + g + ")", plain.ship(f, g), x.ship(f, g));
                due("ship(" + a + ", " + b + ")", plain.ship(a, b), x.ship(a, b));
            }
            case 9 -> {
                int fog = number(10);
                int what = number(1);
                String odds = "odds(" + a + ", " + fog + ", " + what + ")";
                due(odds, plain.odds(a, fog, what), x.odds(a, fog, what));
            }
            case 10 -> {
                int f = random.nextBoolean() ? plain.keeper(random.nextInt(6), 0) : b;
                due("saw(" + a + ", " + f + ")", plain.saw(a, f), x.saw(a, f));
            }
            case 11 -> due("fits(" + (a - 1) + ")", plain.fits(a - 1), x.fits(a - 1));
            case 12 -> {
                int kind = number(5);
                due("mark(" + kind + ", " + a + ")", plain.mark(kind, a), x.mark(kind, a));
                due("trace()", plain.trace(), x.trace());
            }
            case 13 -> images();
            case 14 -> due("count(" + a + ")", plain.count(a), x.count(a));
            default -> {
                if (random.nextInt(4) == 0) {
                    due("forget()", plain.forget(), x.forget());
                } else {
                    due("fits(-1)", plain.fits(-1), x.fits(-1));
                }
            }
        }
    }

    private void undoSome() {
        for (int i = random.nextInt(random.nextInt(10) == 0 ? 13 : 3); i >= 0; i--) {
            due("undo()", plain.undo(), x.undo());
        }
    }

    private void images() {
        int image = number(1);
        if (random.nextBoolean()) {
            due("keep(" + image + ")", plain.keep(image), x.keep(image));
        } else {
            due("back(" + image + ")", plain.back(image), x.back(image));
        }
    }
}
