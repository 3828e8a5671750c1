import java.math.BigInteger;
import java.util.ArrayDeque;
import java.util.ArrayList;
import java.util.Arrays;
import java.util.Collections;
import java.util.HashMap;
import java.util.List;
import java.util.Map;
import java.util.regex.Matcher;
import java.util.regex.Pattern;

/**
 * The document once more, told by other means than the program's (lists, maps, regular expressions,
 * recursion), so that random runs can be compared with it.
 */
final class PlainKeepers {
    private static final int BAD = -1, STATE = -2, FULL = -3, NONE = -9;
    private static final Pattern TOKEN = Pattern.compile("[a-z]+|[0-9]+|;|[^ ]", Pattern.DOTALL);

    /** Who is where (keeper by rock), moons, burnt, who is out, and the moments ahead of the deeds. */
    private static final class Moment {
        List<Integer> who = new ArrayList<>();
        int moons;
        int burnt;
        List<Boolean> out = new ArrayList<>();
        List<Moment> past = new ArrayList<>();

        Moment copy() {
            Moment m = new Moment();
            m.who = new ArrayList<>(who);
            m.moons = moons;
            m.burnt = burnt;
            m.out = new ArrayList<>(out);
            m.past = new ArrayList<>(past);
            return m;
        }
    }

    private String text = "";
    private List<Integer> flashes = new ArrayList<>();
    private List<int[]> hates = new ArrayList<>();
    private int sight = 1;
    private Moment now = new Moment();
    private final Moment[] images = new Moment[2];
    private final List<int[]> seen = new ArrayList<>();
    private long trace;

    int type(int c) {
        if (c < 0 || c > 255) return BAD;
        if (text.length() == 120) return FULL;
        text += (char) c;
        return text.length();
    }

    int clear() {
        int n = text.length();
        text = "";
        return n;
    }

    int coast() {
        List<Integer> places = new ArrayList<>();
        List<String> tokens = new ArrayList<>();
        Matcher m = TOKEN.matcher(text);
        while (m.find()) {
            places.add(m.start());
            tokens.add(m.group());
        }
        places.add(text.length());
        tokens.add("");
        List<Integer> newFlashes = new ArrayList<>();
        List<int[]> newHates = new ArrayList<>();
        int newSight = -1;
        int at = 0;
        int items = 0;
        while (!tokens.get(at).isEmpty()) {
            String letter = tokens.get(at);
            if (!letter.matches("[khs]")
                    || letter.equals("k") && newFlashes.size() == 6
                    || letter.equals("h") && newHates.size() == 8
                    || letter.equals("s") && newSight != -1) {
                return -10 - places.get(at);
            }
            at++;
            int[] numbers = new int[letter.equals("h") ? 2 : 1];
            for (int i = 0; i < numbers.length; i++) {
                String token = tokens.get(at);
                if (!token.matches("0|[1-9][0-9]?")) return -10 - places.get(at);
                numbers[i] = Integer.parseInt(token);
                boolean stands = letter.equals("k") ? numbers[i] >= 1 && numbers[i] <= 9
                        : letter.equals("s") ? numbers[i] <= 5
                        : numbers[i] < newFlashes.size() && (i == 0 || numbers[1] != numbers[0]);
                if (!stands) return -10 - places.get(at);
                at++;
            }
            if (!tokens.get(at).equals(";")) return -10 - places.get(at);
            at++;
            items++;
            if (letter.equals("k")) newFlashes.add(numbers[0]);
            if (letter.equals("h")) newHates.add(numbers);
            if (letter.equals("s")) newSight = numbers[0];
        }
        text = "";
        flashes = newFlashes;
        hates = newHates;
        sight = newSight == -1 ? 1 : newSight;
        now = new Moment();
        for (int k = 0; k < flashes.size(); k++) {
            now.who.add(k);
            now.out.add(false);
        }
        images[0] = null;
        images[1] = null;
        seen.clear();
        return items;
    }

    private boolean none(int k) {
        return k < 0 || k >= flashes.size();
    }

    private boolean hate(int a, int b) {
        return hates.stream().anyMatch(h -> h[0] == a && h[1] == b || h[0] == b && h[1] == a);
    }

    private int drift(int k) {
        return Math.abs(now.who.indexOf(k) - k);
    }

    int keeper(int k, int what) {
        if (none(k) || what < 0 || what > 4) return BAD;
        if (what == 0) return flashes.get(k);
        if (what == 1) return now.who.indexOf(k);
        if (what == 2) return drift(k);
        if (what == 3) return now.out.get(k) ? 1 : 0;
        int bits = 0;
        for (int other = 0; other < flashes.size(); other++) {
            if (hate(k, other)) bits += 1 << other;
        }
        return bits;
    }

    int rock(int r) {
        return none(r) ? BAD : now.who.get(r);
    }

    /** What becomes of an order by a change; null, if it may not be. */
    private List<Integer> changed(List<Integer> who, int change) {
        List<Integer> next = new ArrayList<>(who);
        boolean[] taken = new boolean[32];
        for (int r = 0; r < 31; r++) {
            if ((change >> r) % 2 == 1) {
                if (taken[r] || hate(who.get(r), who.get(r + 1))) return null;
                taken[r] = true;
                taken[r + 1] = true;
                Collections.swap(next, r, r + 1);
            }
        }
        return next;
    }

    private int changes() {
        int n = 1;
        for (int r = 1; r < flashes.size(); r++) n *= 2;
        return n;
    }

    int moon(int change) {
        if (change < 0 || change >= changes()) return BAD;
        List<Integer> next = changed(now.who, change);
        if (next == null || now.moons == 99) return STATE;
        remember();
        int moved = 0;
        for (int r = 0; r < next.size(); r++) {
            if (!next.get(r).equals(now.who.get(r))) moved++;
            if (!now.out.get(r)) now.burnt += flashes.get(r);
        }
        now.who = next;
        now.moons++;
        return moved;
    }

    private void remember() {
        Moment ahead = now.copy();
        now.past.add(ahead);
        if (now.past.size() > 10) now.past.remove(0);
    }

    private int outs() {
        return Collections.frequency(now.out, true);
    }

    int puts(int k, int is) {
        if (none(k) || is != 0 && is != 1) return BAD;
        if (now.out.get(k) == (is == 1)) return STATE;
        remember();
        now.out.set(k, is == 1);
        return outs();
    }

    int undo() {
        if (now.past.isEmpty()) return STATE;
        List<Moment> left = new ArrayList<>(now.past.subList(0, now.past.size() - 1));
        now = now.past.get(now.past.size() - 1).copy();
        now.past = left;
        return left.size();
    }

    private int likes(List<Integer> who) {
        int twos = 0;
        for (int i = 0; i < who.size(); i++) {
            for (int j = 0; j < i; j++) {
                if (i - j <= sight && flashes.get(who.get(i)).equals(flashes.get(who.get(j)))) twos++;
            }
        }
        return twos;
    }

    int now(int what) {
        if (what == 0) return now.moons;
        if (what == 1) return now.burnt;
        if (what == 3) return likes(now.who);
        int sum = 0;
        for (int k = 0; k < flashes.size(); k++) {
            if (what == 2 && now.out.get(k)) sum += 1 << k;
            if (what == 4) sum += drift(k);
        }
        if (what == 2 || what == 4) return sum;
        if (what != 5) return BAD;
        int best = -1;
        int bestRank = Integer.MAX_VALUE;
        for (int c = 0; c < changes(); c++) {
            List<Integer> next = changed(now.who, c);
            if (next == null) continue;
            int rank = likes(next) * 100 - Integer.bitCount(c);
            if (rank < bestRank) {
                bestRank = rank;
                best = c;
            }
        }
        return best;
    }

    /** How far all orders are that moons lead to from one. */
    private Map<List<Integer>, Integer> far(List<Integer> from, boolean safe) {
        Map<List<Integer>, Integer> far = new HashMap<>();
        ArrayDeque<List<Integer>> todo = new ArrayDeque<>();
        far.put(from, 0);
        todo.add(from);
        while (!todo.isEmpty()) {
            List<Integer> who = todo.remove();
            for (int c = 0; c < changes(); c++) {
                List<Integer> next = changed(who, c);
                if (next == null || far.containsKey(next) || safe && likes(next) > 0) continue;
                far.put(next, far.get(who) + 1);
                todo.add(next);
            }
        }
        return far;
    }

    private int homeFrom(List<Integer> who, boolean safe) {
        List<Integer> home = new ArrayList<>(who);
        Collections.sort(home);
        Integer moons = far(who, safe).get(home);
        return moons == null ? NONE : moons;
    }

    int homeward(int safe, int what) {
        if (safe != 0 && safe != 1 || what != 0 && what != 1) return BAD;
        int moons = homeFrom(now.who, safe == 1);
        if (what == 0) return moons;
        if (moons <= 0) return NONE;
        // the first change is tried out, each with a search of its own
        for (int c = 0; c < changes(); c++) {
            List<Integer> next = changed(now.who, c);
            if (next == null || safe == 1 && likes(next) > 0) continue;
            if (homeFrom(next, safe == 1) == moons - 1) return c;
        }
        return NONE;
    }

    int trade(int k, int l, int safe) {
        if (none(k) || none(l) || k == l || safe != 0 && safe != 1) return BAD;
        int fewest = NONE;
        for (Map.Entry<List<Integer>, Integer> e : far(now.who, safe == 1).entrySet()) {
            boolean traded = e.getKey().indexOf(k) == now.who.indexOf(l)
                    && e.getKey().indexOf(l) == now.who.indexOf(k);
            if (traded && (fewest == NONE || e.getValue() < fewest)) fewest = e.getValue();
        }
        return fewest;
    }

    int ship(int a, int b) {
        if (a < 1 || a > 9 || b < 1 || b > 9) return BAD;
        int bits = 0;
        for (int i = 0; i < now.who.size() - 1; i++) {
            int here = now.who.get(i);
            int next = now.who.get(i + 1);
            if (flashes.get(here) == a && flashes.get(next) == b
                    && !now.out.get(here) && !now.out.get(next)) bits += 1 << i;
        }
        return bits;
    }

    int odds(int r, int x, int what) {
        if (none(r) || x < 0 || x > 10 || what != 0 && what != 1) return BAD;
        // of all hidden by turns: the odds that none so far was seen, as a fraction
        BigInteger hidden = BigInteger.ONE;
        BigInteger all = BigInteger.ONE;
        for (int i = 0; i < now.who.size(); i++) {
            if (i >= r - sight && i <= r + sight && !now.out.get(now.who.get(i))) {
                hidden = hidden.multiply(BigInteger.valueOf(x));
                all = all.multiply(BigInteger.TEN);
            }
        }
        BigInteger upper = all.subtract(hidden);
        BigInteger g = upper.gcd(all);
        return (what == 0 ? upper : all).divide(g).intValueExact();
    }

    int saw(int r, int flash) {
        if (none(r) || flash < 1 || flash > 9) return BAD;
        if (seen.size() == 6) return FULL;
        seen.add(new int[] {r, flash});
        return seen.size();
    }

    int forget() {
        int n = seen.size();
        seen.clear();
        return n;
    }

    private void placeFrom(int r, List<Integer> who, List<List<Integer>> all) {
        if (r == flashes.size()) {
            all.add(new ArrayList<>(who));
            return;
        }
        for (int k = 0; k < flashes.size(); k++) {
            if (who.contains(k)) continue;
            boolean fits = true;
            for (int[] s : seen) {
                if (s[0] == r && s[1] != flashes.get(k)) fits = false;
            }
            if (!fits) continue;
            who.add(k);
            placeFrom(r + 1, who, all);
            who.remove(who.size() - 1);
        }
    }

    int fits(int r) {
        if (r < -1 || r >= flashes.size()) return BAD;
        List<List<Integer>> all = new ArrayList<>();
        placeFrom(0, new ArrayList<>(), all);
        if (r == -1) return all.size();
        int[] there = all.stream().mapToInt(who -> who.get(r)).distinct().toArray();
        return there.length == 1 ? there[0] : NONE;
    }

    int mark(int kind, int k) {
        if (none(k) || kind < 0 || kind > 5) return -1000000;
        int mark = flashes.get(k);
        trace += new int[] {1, 11, 101, 1011, 10101, 100001}[kind];
        if (kind == 1 || kind == 3) mark += drift(k);
        if (kind == 2 || kind == 4) mark -= now.who.indexOf(k);
        if (kind == 3) mark += mark;
        if (kind == 4) mark += k;
        if (kind == 5) mark += now.moons;
        return mark;
    }

    int keep(int image) {
        if (image != 0 && image != 1) return BAD;
        images[image] = now.copy();
        return now.moons;
    }

    int back(int image) {
        if (image != 0 && image != 1) return BAD;
        if (images[image] == null) return STATE;
        now = images[image].copy();
        return now.moons;
    }

    int count(int what) {
        int[] counts = {flashes.size(), hates.size(), sight, seen.size(), now.past.size(),
                text.length()};
        return what < 0 || what >= counts.length ? BAD : counts[what];
    }

    long trace() {
        return trace;
    }

    @Override
    public String toString() {
        return "flashes " + flashes + " hates " + Arrays.deepToString(hates.toArray()) + " sight "
                + sight + " who " + now.who + " out " + now.out;
    }
}
