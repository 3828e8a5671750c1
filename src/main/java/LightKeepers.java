import java.util.Arrays;

/** Keepers who change lights with their neighbours along a coast of rocks; README.md tells how to use it. */
public final class LightKeepers {
    public static final int BAD = -1, STATE = -2, FULL = -3, NONE = -9;
    public static final int NO = -1000000;

    private static final int MOST_BYTES = 120;
    private static final int MOST_KEEPERS = 6;
    private static final int MOST_HATES = 8;
    private static final int MOST_FLASH = 9;
    private static final int MOST_SIGHT = 5;
    private static final int SIGHT_AT_FIRST = 1;
    private static final int MOST_MOONS = 99;
    private static final int MOST_KNOWN = 10;
    private static final int MOST_SEEN = 6;
    private static final int MOST_FOG = 10;
    private static final int FAULT_AT_0 = -10;
    /** All orders of six keepers, and the twos of neighbours among six rocks. */
    private static final int MOST_WAYS = 720;
    private static final int MOST_TWOS = 5;
    private static final int ALL_HOME = 0;

    private final Reader text = new Reader();
    private final Told draft = new Told();
    private final Shore shore = new Shore();
    private final Search anyhow = new Search(shore, false);
    private final Search safely = new Search(shore, true);
    private final Moment present = new Moment();
    private final Moment image0 = new Moment();
    private final Moment image1 = new Moment();
    private final int[] seenRock = new int[MOST_SEEN];
    private final int[] seenFlash = new int[MOST_SEEN];
    private int seen;
    private long traced;

    public LightKeepers() {
    }

    // ---- the coast

    public int type(int c) {
        if (c < 0 || c > 255) {
            return BAD;
        }
        return text.add(c) ? text.length : FULL;
    }

    public int clear() {
        int had = text.length;
        text.length = 0;
        return had;
    }

    public int coast() {
        int items = text.read(draft);
        if (items == NONE) {
            return FAULT_AT_0 - text.place;
        }
        text.length = 0;
        shore.become(draft);
        anyhow.renew();
        safely.renew();
        present.begin();
        image0.begin();
        image1.begin();
        seen = 0;
        return items;
    }

    public int keeper(int k, int what) {
        if (!isKeeper(k)) {
            return BAD;
        }
        switch (what) {
            case 0: return shore.told.flashOf(k);
            case 1: return shore.ways.rockOf(present.way, k);
            case 2: return driftOf(k);
            case 3: return isOut(k) ? 1 : 0;
            case 4: return shore.told.hatersOf(k);
            default: return BAD;
        }
    }

    public int rock(int r) {
        return isRock(r) ? shore.ways.who(present.way, r) : BAD;
    }

    // ---- what is done

    public int moon(int change) {
        if (change < 0 || change >= shore.changes()) {
            return BAD;
        }
        if (present.moons >= MOST_MOONS || !Shore.allows(shore.willing(present.way), change)) {
            return STATE;
        }
        present.remember();
        present.way = shore.after(present.way, change);
        present.moons++;
        present.burnt += flashesNotOut();
        return 2 * Integer.bitCount(change);
    }

    public int puts(int k, int is) {
        if (!isKeeper(k) || !isZeroOrOne(is)) {
            return BAD;
        }
        if (isOut(k) == (is == 1)) {
            return STATE;
        }
        present.remember();
        present.out ^= 1 << k;
        return Integer.bitCount(present.out);
    }

    public int undo() {
        return present.recall() ? present.known : STATE;
    }

    public int now(int what) {
        switch (what) {
            case 0: return present.moons;
            case 1: return present.burnt;
            case 2: return present.out;
            case 3: return shore.likes(present.way);
            case 4: return drifts();
            case 5: return shore.calmest(present.way);
            default: return BAD;
        }
    }

    // ---- moons to come

    public int homeward(int safe, int what) {
        Search search = searchOf(safe);
        if (search == null || !isZeroOrOne(what)) {
            return BAD;
        }
        search.spread(present.way);
        int fewest = search.moonsTo(ALL_HOME);
        if (what == 0) {
            return fewest;
        }
        return fewest > 0 ? search.firstTo(ALL_HOME) : NONE;
    }

    public int trade(int k, int l, int safe) {
        Search search = searchOf(safe);
        if (search == null || !isKeeper(k) || !isKeeper(l) || k == l) {
            return BAD;
        }
        search.spread(present.way);
        int rockOfK = shore.ways.rockOf(present.way, k);
        int rockOfL = shore.ways.rockOf(present.way, l);
        int fewest = NONE;
        for (int way = 0; way < shore.ways.many; way++) {
            if (shore.ways.who(way, rockOfK) == l && shore.ways.who(way, rockOfL) == k) {
                fewest = fewer(fewest, search.moonsTo(way));
            }
        }
        return fewest;
    }

    // ---- flashes

    public int ship(int a, int b) {
        if (!isFlash(a) || !isFlash(b)) {
            return BAD;
        }
        int places = 0;
        for (int rock = 0; rock + 1 < shore.told.keepers; rock++) {
            if (shines(rock, a) && shines(rock + 1, b)) {
                places |= 1 << rock;
            }
        }
        return places;
    }

    public int odds(int r, int x, int what) {
        if (!isRock(r) || x < 0 || x > MOST_FOG || !isZeroOrOne(what)) {
            return BAD;
        }
        int lights = lightsInSight(r);
        int lower = power(MOST_FOG, lights);
        int upper = lower - power(x, lights);
        int divisor = commonDivisor(upper, lower);
        if (divisor <= 0) {
            return BAD;
        }
        return what == 0 ? upper / divisor : lower / divisor;
    }

    public int saw(int r, int flash) {
        if (!isRock(r) || !isFlash(flash)) {
            return BAD;
        }
        if (seen >= MOST_SEEN) {
            return FULL;
        }
        put(seenRock, seen, r);
        put(seenFlash, seen, flash);
        seen++;
        return seen;
    }

    public int forget() {
        int had = seen;
        seen = 0;
        return had;
    }

    public int fits(int r) {
        if (r == -1) {
            return waysThatFit();
        }
        return isRock(r) ? sureOf(r) : BAD;
    }

    // ---- kinds, images

    public int mark(int kind, int k) {
        if (!isKeeper(k)) {
            return NO;
        }
        switch (kind) {
            case 0: return markOfKeeper(k);
            case 1: return markOfSleeper(k);
            case 2: return markOfPilot(k);
            case 3: return markOfHorn(k);
            case 4: return markOfCat(k);
            case 5: return markOfWife(k);
            default: return NO;
        }
    }

    public int keep(int image) {
        Moment kept = imageOf(image);
        if (kept == null) {
            return BAD;
        }
        kept.become(present);
        kept.isKept = true;
        return present.moons;
    }

    public int back(int image) {
        Moment kept = imageOf(image);
        if (kept == null) {
            return BAD;
        }
        if (!kept.isKept) {
            return STATE;
        }
        present.become(kept);
        return present.moons;
    }

    public int count(int what) {
        switch (what) {
            case 0: return shore.told.keepers;
            case 1: return shore.told.hates;
            case 2: return shore.told.sight;
            case 3: return seen;
            case 4: return present.known;
            case 5: return text.length;
            default: return BAD;
        }
    }

    public long trace() {
        return traced;
    }

    // ---- what is a number as told

    private boolean isKeeper(int k) {
        return k >= 0 && k < shore.told.keepers;
    }

    private boolean isRock(int r) {
        // there are as many rocks as keepers
        return isKeeper(r);
    }

    private static boolean isFlash(int flash) {
        return flash >= 1 && flash <= MOST_FLASH;
    }

    private static boolean isZeroOrOne(int number) {
        return number == 0 || number == 1;
    }

    private Search searchOf(int safe) {
        return safe == 0 ? anyhow : safe == 1 ? safely : null;
    }

    private Moment imageOf(int image) {
        return image == 0 ? image0 : image == 1 ? image1 : null;
    }

    // ---- drift, lights

    private int driftOf(int k) {
        return Math.abs(shore.ways.rockOf(present.way, k) - k);
    }

    private int drifts() {
        int sum = 0;
        for (int k = 0; k < shore.told.keepers; k++) {
            sum += driftOf(k);
        }
        return sum;
    }

    private boolean isOut(int k) {
        return (present.out >> k & 1) == 1;
    }

    private int flashesNotOut() {
        int sum = 0;
        for (int k = 0; k < shore.told.keepers; k++) {
            if (!isOut(k)) {
                sum += shore.told.flashOf(k);
            }
        }
        return sum;
    }

    private boolean shines(int rock, int flash) {
        int k = shore.ways.who(present.way, rock);
        return shore.told.flashOf(k) == flash && !isOut(k);
    }

    private int lightsInSight(int from) {
        int lights = 0;
        for (int rock = 0; rock < shore.told.keepers; rock++) {
            boolean inSight = Math.abs(rock - from) <= shore.told.sight;
            if (inSight && !isOut(shore.ways.who(present.way, rock))) {
                lights++;
            }
        }
        return lights;
    }

    // ---- what was seen

    private boolean fitsSeen(int way) {
        for (int i = 0; i < seen; i++) {
            if (shore.flashAt(way, item(seenRock, i)) != item(seenFlash, i)) {
                return false;
            }
        }
        return true;
    }

    private int waysThatFit() {
        int fitting = 0;
        for (int way = 0; way < shore.ways.many; way++) {
            if (fitsSeen(way)) {
                fitting++;
            }
        }
        return fitting;
    }

    private int sureOf(int rock) {
        int sure = NONE;
        for (int way = 0; way < shore.ways.many; way++) {
            if (fitsSeen(way)) {
                int k = shore.ways.who(way, rock);
                if (sure != NONE && sure != k) {
                    return NONE;
                }
                sure = k;
            }
        }
        return sure;
    }

    // ---- the bodies of the kinds

    private int markOfKeeper(int k) {
        traced += 1;
        return shore.told.flashOf(k);
    }

    private int markOfSleeper(int k) {
        traced += 10;
        return markOfKeeper(k) + driftOf(k);
    }

    private int markOfPilot(int k) {
        traced += 100;
        return markOfKeeper(k) - shore.ways.rockOf(present.way, k);
    }

    private int markOfHorn(int k) {
        traced += 1000;
        return markOfSleeper(k) * 2;
    }

    private int markOfCat(int k) {
        traced += 10000;
        return markOfPilot(k) + k;
    }

    private int markOfWife(int k) {
        traced += 100000;
        return markOfKeeper(k) + present.moons;
    }

    // ---- rows and numbers

    /** What stands at a place of a row; NONE where the row has no such place. */
    private static int item(int[] row, int place) {
        return place >= 0 && place < row.length ? row[place] : NONE;
    }

    private static void put(int[] row, int place, int number) {
        if (place >= 0 && place < row.length) {
            row[place] = number;
        }
    }

    /** The lesser of two numbers of moons, of which either may be NONE. */
    private static int fewer(int one, int other) {
        if (one == NONE || other == NONE) {
            return one == NONE ? other : one;
        }
        return Math.min(one, other);
    }

    private static int power(int base, int times) {
        int product = 1;
        for (int i = 0; i < times; i++) {
            product *= base;
        }
        return product;
    }

    private static int commonDivisor(int one, int other) {
        int greater = one;
        int rest = other;
        // Euclid's steps on ints are under fifty
        for (int i = 0; i < 50 && rest != 0; i++) {
            int left = greater % rest;
            greater = rest;
            rest = left;
        }
        return greater;
    }

    /** What a text tells. */
    private static final class Told {
        int keepers;
        int hates;
        int sight = SIGHT_AT_FIRST;
        /** Matters while it is read alone. */
        boolean sightTold;
        final int[] flashes = new int[MOST_KEEPERS];
        final int[] haters = new int[MOST_KEEPERS];

        void begin() {
            keepers = 0;
            hates = 0;
            sight = SIGHT_AT_FIRST;
            sightTold = false;
            Arrays.fill(haters, 0);
        }

        void become(Told other) {
            keepers = other.keepers;
            hates = other.hates;
            sight = other.sight;
            System.arraycopy(other.flashes, 0, flashes, 0, MOST_KEEPERS);
            System.arraycopy(other.haters, 0, haters, 0, MOST_KEEPERS);
        }

        void addKeeper(int flash) {
            put(flashes, keepers, flash);
            keepers++;
        }

        void addHate(int a, int b) {
            put(haters, a, hatersOf(a) | 1 << b);
            put(haters, b, hatersOf(b) | 1 << a);
            hates++;
        }

        void tellSight(int rocks) {
            sight = rocks;
            sightTold = true;
        }

        int flashOf(int k) {
            return k >= 0 && k < MOST_KEEPERS ? flashes[k] : 0;
        }

        int hatersOf(int k) {
            return k >= 0 && k < MOST_KEEPERS ? haters[k] : 0;
        }
    }

    /** The text, and what reads it token by token. */
    private static final class Reader {
        private static final int END = 0, LETTER = 1, NUMBER = 2, SEMICOLON = 3, WRONG = 4;

        final int[] bytes = new int[MOST_BYTES];
        int length;
        /** The latest token: its place, where it ends, what it is, its number or letter. */
        int place;
        int end;
        int token;
        int value;

        boolean add(int c) {
            if (length >= MOST_BYTES) {
                return false;
            }
            put(bytes, length, c);
            length++;
            return true;
        }

        /** How many items the text tells; NONE, if it has a fault, which is at the place then. */
        int read(Told told) {
            told.begin();
            end = 0;
            for (int items = 0; items <= MOST_BYTES; items++) {
                next();
                if (token == END) {
                    return items;
                }
                boolean stands = token == LETTER
                        && (value == 'k' ? readKeeper(told)
                        : value == 'h' ? readHate(told)
                        : value == 's' && readSight(told));
                if (!stands) {
                    return NONE;
                }
            }
            return NONE;
        }

        private boolean readKeeper(Told told) {
            if (told.keepers >= MOST_KEEPERS || !readNumber(1, MOST_FLASH)) {
                return false;
            }
            told.addKeeper(value);
            return readSemicolon();
        }

        private boolean readHate(Told told) {
            if (told.hates >= MOST_HATES || !readNumber(0, told.keepers - 1)) {
                return false;
            }
            int a = value;
            if (!readNumber(0, told.keepers - 1) || value == a) {
                return false;
            }
            told.addHate(a, value);
            return readSemicolon();
        }

        private boolean readSight(Told told) {
            if (told.sightTold || !readNumber(0, MOST_SIGHT)) {
                return false;
            }
            told.tellSight(value);
            return readSemicolon();
        }

        private boolean readNumber(int least, int most) {
            next();
            return token == NUMBER && value >= least && value <= most;
        }

        private boolean readSemicolon() {
            next();
            return token == SEMICOLON;
        }

        private void next() {
            place = end;
            while (place < length && item(bytes, place) == ' ') {
                place++;
            }
            end = place + 1;
            int c = item(bytes, place);
            if (place >= length) {
                token = END;
            } else if (isLetter(c)) {
                nextLetters(c);
            } else if (isDigit(c)) {
                nextDigits(c);
            } else {
                token = c == ';' ? SEMICOLON : WRONG;
            }
        }

        private void nextLetters(int c) {
            while (end < length && isLetter(item(bytes, end))) {
                end++;
            }
            // several letters side by side begin no item
            token = end - place == 1 ? LETTER : WRONG;
            value = c;
        }

        private void nextDigits(int c) {
            value = c - '0';
            while (end < length && isDigit(item(bytes, end))) {
                // held at 100, so that no row of digits is too long for an int
                value = Math.min(100, value * 10 + item(bytes, end) - '0');
                end++;
            }
            boolean zeroAhead = c == '0' && end - place > 1;
            token = value > 99 || zeroAhead ? WRONG : NUMBER;
        }

        private static boolean isLetter(int c) {
            return c >= 'a' && c <= 'z';
        }

        private static boolean isDigit(int c) {
            return c >= '0' && c <= '9';
        }
    }

    /**
     * The ways in which as many keepers as there are rocks can be at them, in the order of who is at
     * rock 0, then rock 1 and so on: way 0 is all at home. A way is one int, so that it is easily
     * kept, undone and searched.
     */
    private static final class Ways {
        private static final int[] FACTORIALS = {1, 1, 2, 6, 24, 120, 720};

        int rocks;
        int many = 1;
        final int[] keepers = new int[MOST_WAYS * MOST_KEEPERS];
        final int[] changed = new int[MOST_WAYS * MOST_TWOS];
        final int[] row = new int[MOST_KEEPERS];

        /** Numbers the ways of so many rocks anew. */
        void become(int howMany) {
            if (howMany == rocks || howMany < 0 || howMany > MOST_KEEPERS) {
                return;
            }
            rocks = howMany;
            many = factorial(rocks);
            for (int way = 0; way < many && way < MOST_WAYS; way++) {
                fillRow(way);
                System.arraycopy(row, 0, keepers, way * MOST_KEEPERS, MOST_KEEPERS);
                for (int rock = 0; rock + 1 < rocks; rock++) {
                    swapInRow(rock);
                    put(changed, way * MOST_TWOS + rock, numberOfRow());
                    swapInRow(rock);
                }
            }
        }

        int who(int way, int rock) {
            if (way < 0 || way >= MOST_WAYS || rock < 0 || rock >= MOST_KEEPERS) {
                return NONE;
            }
            return keepers[way * MOST_KEEPERS + rock];
        }

        int rockOf(int way, int k) {
            for (int rock = 0; rock < rocks; rock++) {
                if (who(way, rock) == k) {
                    return rock;
                }
            }
            return NONE;
        }

        /** The way that another becomes, if who is at a rock and who is at the next one change. */
        int changedAt(int way, int rock) {
            if (way < 0 || way >= MOST_WAYS || rock < 0 || rock >= MOST_TWOS) {
                return way;
            }
            return changed[way * MOST_TWOS + rock];
        }

        private void fillRow(int way) {
            int rest = way;
            int free = (1 << rocks) - 1;
            for (int rock = 0; rock < rocks; rock++) {
                int behind = factorial(rocks - 1 - rock);
                int k = freeKeeper(free, behind > 0 ? rest / behind : 0);
                rest = behind > 0 ? rest % behind : 0;
                free &= ~(1 << k);
                put(row, rock, k);
            }
        }

        private int numberOfRow() {
            int number = 0;
            int free = (1 << rocks) - 1;
            for (int rock = 0; rock < rocks; rock++) {
                int k = item(row, rock);
                int lesser = Integer.bitCount(free & (1 << k) - 1);
                number += lesser * factorial(rocks - 1 - rock);
                free &= ~(1 << k);
            }
            return number;
        }

        private void swapInRow(int rock) {
            int k = item(row, rock);
            put(row, rock, item(row, rock + 1));
            put(row, rock + 1, k);
        }

        /** Of the keepers in a set the one ahead of whom there are so many others in it. */
        private static int freeKeeper(int free, int ahead) {
            int left = ahead;
            for (int k = 0; k < MOST_KEEPERS; k++) {
                if ((free >> k & 1) == 1) {
                    if (left == 0) {
                        return k;
                    }
                    left--;
                }
            }
            return 0;
        }

        private static int factorial(int number) {
            return number >= 0 && number < FACTORIALS.length ? FACTORIALS[number] : 0;
        }
    }

    /** The coast as told: what its keepers may do in a way, and what is in sight then. */
    private static final class Shore {
        final Told told = new Told();
        final Ways ways = new Ways();

        void become(Told other) {
            told.become(other);
            ways.become(told.keepers);
        }

        /** Changes are the numbers below this one. */
        int changes() {
            return told.keepers > 1 ? 1 << told.keepers - 1 : 1;
        }

        /** The rocks (bits) where who is there and who is at the next one don't hate each other. */
        int willing(int way) {
            int rocks = 0;
            for (int rock = 0; rock + 1 < told.keepers; rock++) {
                int haters = told.hatersOf(ways.who(way, rock));
                if ((haters >> ways.who(way, rock + 1) & 1) == 0) {
                    rocks |= 1 << rock;
                }
            }
            return rocks;
        }

        static boolean allows(int willing, int change) {
            boolean noRockTwice = (change & change >> 1) == 0;
            return noRockTwice && (change & ~willing) == 0;
        }

        int after(int way, int change) {
            int reached = way;
            for (int rock = 0; rock < MOST_TWOS; rock++) {
                if ((change >> rock & 1) == 1) {
                    reached = ways.changedAt(reached, rock);
                }
            }
            return reached;
        }

        int flashAt(int way, int rock) {
            return told.flashOf(ways.who(way, rock));
        }

        int likes(int way) {
            int likes = 0;
            for (int rock = 0; rock < told.keepers; rock++) {
                int flash = flashAt(way, rock);
                int last = Math.min(rock + told.sight, told.keepers - 1);
                for (int other = rock + 1; other <= last; other++) {
                    if (flashAt(way, other) == flash) {
                        likes++;
                    }
                }
            }
            return likes;
        }

        int calmest(int way) {
            int willing = willing(way);
            int calmest = 0;
            int fewest = likes(way);
            for (int change = 1; change < changes(); change++) {
                if (allows(willing, change)) {
                    int likes = likes(after(way, change));
                    boolean moreChange = Integer.bitCount(change) > Integer.bitCount(calmest);
                    if (likes < fewest || likes == fewest && moreChange) {
                        calmest = change;
                        fewest = likes;
                    }
                }
            }
            return calmest;
        }
    }

    /** The fewest moons from one way to all others, and the least first change of so many. */
    private static final class Search {
        /** Instead of a number of moons: a way that has likes, where no safe moon ends. */
        private static final int BARRED = -8;

        final Shore shore;
        final boolean safe;
        final int[] moons = new int[MOST_WAYS];
        final int[] firsts = new int[MOST_WAYS];
        final int[] queue = new int[MOST_WAYS];
        int queued;
        /** The way that it was made from; it holds until another is asked for or the coast is new. */
        int from = NONE;

        Search(Shore shore, boolean safe) {
            this.shore = shore;
            this.safe = safe;
        }

        void renew() {
            from = NONE;
        }

        void spread(int way) {
            if (way == from) {
                return;
            }
            from = way;
            queued = 0;
            Arrays.fill(moons, NONE);
            enter(way, 0, 0);
            for (int i = 0; i < queued && i < MOST_WAYS; i++) {
                step(item(queue, i));
            }
        }

        int moonsTo(int way) {
            int fewest = item(moons, way);
            return fewest >= 0 ? fewest : NONE;
        }

        int firstTo(int way) {
            return item(firsts, way);
        }

        private void step(int way) {
            int willing = shore.willing(way);
            int later = item(moons, way) + 1;
            for (int change = 1; change < shore.changes(); change++) {
                if (Shore.allows(willing, change)) {
                    int first = later == 1 ? change : item(firsts, way);
                    reach(shore.after(way, change), later, first);
                }
            }
        }

        /** Ways are reached in the order of the first changes, so that the earliest is the least. */
        private void reach(int way, int later, int first) {
            if (item(moons, way) != NONE) {
                return;
            }
            if (safe && shore.likes(way) > 0) {
                put(moons, way, BARRED);
            } else {
                enter(way, later, first);
            }
        }

        private void enter(int way, int later, int first) {
            put(moons, way, later);
            put(firsts, way, first);
            put(queue, queued, way);
            queued++;
        }
    }

    /** Who is where, moons, burnt, who is out, what may be undone: as it is, or as an image has it. */
    private static final class Moment {
        private static final int PARTS = 4;

        int way;
        int moons;
        int burnt;
        int out;
        int known;
        final int[] past = new int[MOST_KNOWN * PARTS];
        boolean isKept;

        void begin() {
            way = ALL_HOME;
            moons = 0;
            burnt = 0;
            out = 0;
            known = 0;
            isKept = false;
        }

        void become(Moment other) {
            way = other.way;
            moons = other.moons;
            burnt = other.burnt;
            out = other.out;
            known = other.known;
            System.arraycopy(other.past, 0, past, 0, MOST_KNOWN * PARTS);
        }

        void remember() {
            if (known >= MOST_KNOWN) {
                System.arraycopy(past, PARTS, past, 0, (MOST_KNOWN - 1) * PARTS);
                known = MOST_KNOWN - 1;
            }
            int place = known * PARTS;
            put(past, place, way);
            put(past, place + 1, moons);
            put(past, place + 2, burnt);
            put(past, place + 3, out);
            known++;
        }

        boolean recall() {
            if (known <= 0) {
                return false;
            }
            known--;
            int place = known * PARTS;
            way = item(past, place);
            moons = item(past, place + 1);
            burnt = item(past, place + 2);
            out = item(past, place + 3);
            return true;
        }
    }
}
