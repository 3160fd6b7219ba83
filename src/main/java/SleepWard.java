import java.util.Arrays;

/** The sleepwalkers' quarter: a ward, those who walk in it asleep, and what comes of it. */
public final class SleepWard {
    private static final int BEYOND = -1000000001;
    private static final int FULL = -1000000002;
    private static final int KIND = -1000000003;
    private static final int NONE = -1000000004;
    private static final int STATE = -1000000005;
    private static final int MISSING = -1000000006;
    private static final int SIZE = -1000000007;
    private static final int FINDINGS = 7;

    private static final int SIDE = 5;
    private static final int SQUARES = 25;
    private static final int WAYS = 4;
    private static final int MOST_HEIGHT = 9;
    private static final int MOST_MOON = 4;
    private static final int MOST_WALKERS = 8;
    private static final int MOST_ROUNDS = 12;
    private static final int LAST_MINUTE = 9999;

    private static final int WALKER = 0;
    private static final int SLOPER = 1;
    private static final int LAMPER = 2;
    private static final int HOMER = 3;
    private static final int WANDERER = 4;
    private static final int MOONER = 5;
    private static final int KINDS = 6;
    /** The kind above each kind; -1 above the topmost. */
    private static final int[] KIND_ABOVE = {-1, WALKER, WALKER, SLOPER, WALKER, LAMPER};

    /** Doors are numbered in their order: twice the lesser square, and one more if the other is a row below. */
    private static final int DOOR_NUMBERS = 2 * SQUARES;
    private static final int MOST_DOORS = 40;
    private static final int MOST_BARS = 12;

    private static final int LONG_AHEAD = 500;
    private static final int SHORT_AHEAD = 120;
    private static final int ODDS_AHEAD = 15;
    /** Odds are told in twelfths a minute, since one, two, three and four ways all part twelve evenly. */
    private static final int PARTS = 12;

    private static final int MOST_BYTES = 120;
    private static final int SHEETS = 4;
    private static final int MOST_NUMBERS = 40;

    private final Ward here = new Ward();
    /** What goes on without changing what there is: made anew from it by each call that looks ahead. */
    private final Ward ahead = new Ward();
    private final Ward kept = new Ward();
    private boolean isKept = false;
    private final Text text = new Text();
    private final Sheet[] sheets = new Sheet[SHEETS];
    private final int[] banks = new int[MOST_DOORS];
    private final long[] parts = new long[SQUARES];
    private final long[] nextParts = new long[SQUARES];
    private final int[] found = new int[FINDINGS];
    private int foundInAll = 0;

    public SleepWard() {
        for (int s = 0; s < SHEETS; s++) {
            sheets[s] = new Sheet();
        }
    }

    // ---- the ward

    public int door(int one, int other, boolean open) {
        int door = Ward.doorBetween(one, other);
        if (door < 0) {
            return tell(BEYOND);
        }
        return here.putDoor(door, open) ? 1 : 0;
    }

    public int isOpen(int one, int other) {
        int door = Ward.doorBetween(one, other);
        if (door < 0) {
            return tell(BEYOND);
        }
        return here.isShut(door) ? 0 : 1;
    }

    public int height(int square, int v) {
        if (!isSquare(square) || !isWithin(v, 0, MOST_HEIGHT)) {
            return tell(BEYOND);
        }
        int was = here.heights[square];
        here.heights[square] = v;
        return was;
    }

    public int mark(int square, int what, boolean is) {
        if (!isSquare(square) || !isWithin(what, 0, 1)) {
            return tell(BEYOND);
        }
        boolean isNew = what == 0 ? here.putLamp(square, is) : here.putRiver(square, is);
        return isNew ? 1 : 0;
    }

    public int squareOf(int square, int what) {
        if (!isSquare(square)) {
            return tell(BEYOND);
        }
        switch (what) {
            case 0:
                return here.heights[square];
            case 1:
                return here.hasLamp(square) ? 1 : 0;
            case 2:
                return here.isRiver(square) ? 1 : 0;
            case 3:
                return here.walkersAt(square);
            default:
                return tell(BEYOND);
        }
    }

    public int moon(int v) {
        if (!isWithin(v, 0, MOST_MOON)) {
            return tell(BEYOND);
        }
        int was = here.moon;
        here.moon = v;
        return was;
    }

    public int round(int square) {
        if (!isSquare(square)) {
            return tell(BEYOND);
        }
        if (here.roundCount >= MOST_ROUNDS) {
            return tell(FULL);
        }
        here.addRound(square);
        return here.roundCount;
    }

    public int rest() {
        int were = here.roundCount;
        here.emptyRounds();
        return were;
    }

    // ---- walkers

    public int walker(int kind, int square, int way) {
        if (!isKind(kind) || !isSquare(square) || !isWay(way)) {
            return tell(BEYOND);
        }
        if (here.walkerCount >= MOST_WALKERS) {
            return tell(FULL);
        }
        here.addWalker(kind, square, way);
        return here.walkerCount - 1;
    }

    public int of(int walker, int what) {
        if (!isWalker(walker)) {
            return tell(BEYOND);
        }
        Walker one = here.walkers[walker];
        switch (what) {
            case 0:
                return one.kind;
            case 1:
                return one.home;
            case 2:
                return one.place;
            case 3:
                return one.way;
            case 4:
                return one.awake ? 1 : 0;
            case 5:
                return here.waysFrom(one.place);
            default:
                return tell(BEYOND);
        }
    }

    public int set(int walker, int what, int v) {
        if (!isWalker(walker) || !isWithin(what, 1, 3)) {
            return tell(BEYOND);
        }
        if (what == 3 ? !isWay(v) : !isSquare(v)) {
            return tell(BEYOND);
        }
        Walker one = here.walkers[walker];
        int was;
        if (what == 1) {
            was = one.home;
            one.home = v;
        } else if (what == 2) {
            was = one.place;
            one.place = v;
        } else {
            was = one.way;
            one.way = v;
        }
        return was;
    }

    public int wake(int walker, boolean is) {
        if (!isWalker(walker)) {
            return tell(BEYOND);
        }
        Walker one = here.walkers[walker];
        boolean isNew = one.awake != is;
        one.awake = is;
        return isNew ? 1 : 0;
    }

    public int turn(int walker, int kind) {
        if (!isWalker(walker) || !isKind(kind)) {
            return tell(BEYOND);
        }
        Walker one = here.walkers[walker];
        int was = one.kind;
        one.kind = kind;
        return was;
    }

    public int as(int walker, int kind) {
        if (!isWalker(walker) || !isKind(kind)) {
            return tell(BEYOND);
        }
        Walker one = here.walkers[walker];
        if (!isUnder(one.kind, kind)) {
            return tell(KIND);
        }
        return one.place;
    }

    public int step(int walker) {
        if (!isWalker(walker)) {
            return tell(BEYOND);
        }
        int z = here.z;
        int way = here.stepOf(here.walkers[walker]);
        here.z = z;
        return way;
    }

    // ---- minutes

    public int minutes(int n) {
        if (!isWithin(n, 1, LONG_AHEAD)) {
            return tell(BEYOND);
        }
        if (isTooLate(n)) {
            return tell(STATE);
        }
        return here.goMinutes(n);
    }

    public int bed() {
        int away = here.walkerCount - here.homeCount();
        here.minute = 0;
        for (int i = 0; i < here.walkerCount; i++) {
            Walker one = here.walkers[i];
            one.place = one.home;
            one.awake = false;
        }
        return away;
    }

    public int seed(int v) {
        int was = here.z;
        here.z = v;
        return was;
    }

    public int now(int what) {
        switch (what) {
            case 0:
                return here.minute;
            case 1:
                return here.moon;
            case 2:
                return here.watcher;
            case 3:
                return here.awakeCount();
            case 4:
                return here.riverCount();
            case 5:
                return here.homeCount();
            default:
                return tell(BEYOND);
        }
    }

    // ---- on

    public int on(int walker, int n) {
        if (!isWalker(walker) || !isWithin(n, 0, LONG_AHEAD)) {
            return tell(BEYOND);
        }
        if (isTooLate(n)) {
            return tell(STATE);
        }
        ahead.takeFrom(here);
        ahead.goMinutes(n);
        return ahead.walkers[walker].place;
    }

    public int river(int walker) {
        if (!isWalker(walker)) {
            return tell(BEYOND);
        }
        if (isTooLate(LONG_AHEAD)) {
            return tell(STATE);
        }
        ahead.takeFrom(here);
        Walker one = ahead.walkers[walker];
        for (int n = 0; n <= LONG_AHEAD; n++) {
            if (ahead.isRiver(one.place)) {
                return n;
            }
            ahead.goMinute();
        }
        return tell(NONE);
    }

    public int meet(int one, int other) {
        if (!isWalker(one) || !isWalker(other) || one == other) {
            return tell(BEYOND);
        }
        if (isTooLate(LONG_AHEAD)) {
            return tell(STATE);
        }
        ahead.takeFrom(here);
        for (int n = 0; n <= LONG_AHEAD; n++) {
            if (ahead.walkers[one].place == ahead.walkers[other].place) {
                return n;
            }
            ahead.goMinute();
        }
        return tell(NONE);
    }

    public int home(int walker) {
        if (!isWalker(walker)) {
            return tell(BEYOND);
        }
        if (isTooLate(LONG_AHEAD)) {
            return tell(STATE);
        }
        ahead.takeFrom(here);
        Walker one = ahead.walkers[walker];
        for (int n = 1; n <= LONG_AHEAD; n++) {
            ahead.goMinute();
            if (one.place == one.home) {
                return n;
            }
        }
        return tell(NONE);
    }

    public int safe(int n) {
        if (!isWithin(n, 1, LONG_AHEAD)) {
            return tell(BEYOND);
        }
        if (isTooLate(n)) {
            return tell(STATE);
        }
        return isSafe(0L, n) ? 1 : 0;
    }

    public int barred(int n, int what) {
        if (!isWithin(n, 1, SHORT_AHEAD) || !isWithin(what, 0, 1)) {
            return tell(BEYOND);
        }
        if (isTooLate(n)) {
            return tell(STATE);
        }
        int many = findBanks();
        if (many > MOST_BARS) {
            return tell(SIZE);
        }
        int set = leastBars(many, n);
        if (set < 0) {
            return tell(NONE);
        }
        return what == 0 ? Integer.bitCount(set) : set;
    }

    public int lamp(int n) {
        if (!isWithin(n, 1, SHORT_AHEAD)) {
            return tell(BEYOND);
        }
        if (isTooLate(n)) {
            return tell(STATE);
        }
        long without = placesWithLamps(here.lamps, n);
        int best = -1;
        int most = 0;
        for (int square = 0; square < SQUARES; square++) {
            if (!here.hasLamp(square)) {
                int moved = countOthers(without, placesWithLamps(here.lamps | 1 << square, n));
                if (moved > most) {
                    most = moved;
                    best = square;
                }
            }
        }
        return best < 0 ? tell(NONE) : best;
    }

    public int watch(int n) {
        if (!isWithin(n, 1, SHORT_AHEAD)) {
            return tell(BEYOND);
        }
        if (isTooLate(n)) {
            return tell(STATE);
        }
        int best = 0;
        int most = -1;
        for (int square = 0; square < SQUARES; square++) {
            ahead.takeFrom(here);
            ahead.emptyRounds();
            ahead.watcher = square;
            ahead.goMinutes(n);
            int awake = ahead.awakeCount();
            if (awake > most) {
                most = awake;
                best = square;
            }
        }
        return best;
    }

    public int loop(int walker) {
        if (!isWalker(walker)) {
            return tell(BEYOND);
        }
        Walker start = here.walkers[walker];
        if (start.kind != WALKER || start.awake || here.isRiver(start.place)) {
            return tell(STATE);
        }
        int place = start.place;
        int way = start.way;
        for (int n = 1; n <= LONG_AHEAD; n++) {
            int next = Ward.plainStep(way, here.waysFrom(place));
            if (next >= 0) {
                way = next;
                place = Ward.squareBeside(place, way);
            }
            if (place == start.place && way == start.way) {
                return n;
            }
            if (here.isRiver(place)) {
                return tell(NONE);
            }
        }
        return tell(NONE);
    }

    public long odds(int walker, int square, int n) {
        if (!isWalker(walker) || !isSquare(square) || !isWithin(n, 0, ODDS_AHEAD)) {
            return tell(BEYOND);
        }
        if (here.walkers[walker].kind != WANDERER) {
            return tell(STATE);
        }
        spreadOdds(here.walkers[walker].place, n);
        return parts[square];
    }

    public int likeliest(int walker, int n) {
        if (!isWalker(walker) || !isWithin(n, 0, ODDS_AHEAD)) {
            return tell(BEYOND);
        }
        if (here.walkers[walker].kind != WANDERER) {
            return tell(STATE);
        }
        spreadOdds(here.walkers[walker].place, n);
        int best = 0;
        for (int square = 1; square < SQUARES; square++) {
            if (parts[square] > parts[best]) {
                best = square;
            }
        }
        return best;
    }

    // ---- the text

    public int feed(int bytes, int n) {
        if (!isWithin(n, 1, 4)) {
            return tell(BEYOND);
        }
        if (text.length + n > MOST_BYTES) {
            return tell(FULL);
        }
        for (int i = n - 1; i >= 0; i--) {
            text.addByte(bytes >> 8 * i);
        }
        return text.length;
    }

    public int wipe() {
        int had = text.length;
        text.length = 0;
        return had;
    }

    public int ward() {
        ahead.takeFrom(here);
        int items = text.readItems(ahead);
        text.length = 0;
        if (text.fault >= 0) {
            return -1 - text.fault;
        }
        here.takeFrom(ahead);
        return items;
    }

    // ---- sheets

    public int sheet(int s, int bits, int n) {
        if (!isSheet(s) || bits != 0 && bits != 8 && bits != 16 && bits != 64) {
            return tell(BEYOND);
        }
        if (n < 0) {
            return tell(SIZE);
        }
        if (n > MOST_NUMBERS) {
            return tell(BEYOND);
        }
        sheets[s].clear(bits, n);
        return sheets[s].length;
    }

    public long write(int s, int i, long v) {
        if (!isSheet(s)) {
            return tell(BEYOND);
        }
        Sheet sheet = sheets[s];
        if (sheet.isMissing()) {
            return tell(MISSING);
        }
        if (!isWithin(i, 0, sheet.length - 1)) {
            return tell(BEYOND);
        }
        long was = sheet.numbers[i];
        sheet.putNumber(i, v);
        return was;
    }

    public int copy(int s, int from, int t, int to, int n) {
        if (!isSheet(s) || !isSheet(t)) {
            return tell(BEYOND);
        }
        Sheet source = sheets[s];
        Sheet target = sheets[t];
        if (source.isMissing() || target.isMissing()) {
            return tell(MISSING);
        }
        if (source.bits != target.bits) {
            return tell(KIND);
        }
        if (!source.hasRun(from, n) || !target.hasRun(to, n)) {
            return tell(BEYOND);
        }
        System.arraycopy(source.numbers, from, target.numbers, to, n);
        return n;
    }

    public int lays(int s) {
        if (!isSheet(s)) {
            return tell(BEYOND);
        }
        Sheet sheet = sheets[s];
        if (sheet.isMissing()) {
            return tell(MISSING);
        }
        int came = 0;
        for (int i = 0; i < sheet.length && i < SQUARES; i++) {
            long number = sheet.numbers[i];
            if (number >= 0 && number <= MOST_HEIGHT) {
                here.heights[i] = (int) number;
                came++;
            }
        }
        return came;
    }

    public int track(int s, int walker) {
        if (!isSheet(s)) {
            return tell(BEYOND);
        }
        Sheet sheet = sheets[s];
        if (sheet.isMissing()) {
            return tell(MISSING);
        }
        if (!isWalker(walker)) {
            return tell(BEYOND);
        }
        if (isTooLate(LONG_AHEAD)) {
            return tell(STATE);
        }
        ahead.takeFrom(here);
        for (int i = 0; i < sheet.length; i++) {
            sheet.putNumber(i, ahead.walkers[walker].place);
            ahead.goMinute();
        }
        return sheet.length;
    }

    public int whose(int s) {
        if (!isSheet(s)) {
            return tell(BEYOND);
        }
        Sheet sheet = sheets[s];
        if (sheet.isMissing()) {
            return tell(MISSING);
        }
        if (isTooLate(LONG_AHEAD)) {
            return tell(STATE);
        }
        int suspects = (1 << here.walkerCount) - 1;
        ahead.takeFrom(here);
        for (int i = 0; i < sheet.length; i++) {
            suspects &= ahead.walkersAt(sheet.numbers[i]);
            ahead.goMinute();
        }
        for (int walker = 0; walker < here.walkerCount; walker++) {
            if ((suspects >> walker & 1) != 0) {
                return walker;
            }
        }
        return tell(NONE);
    }

    // ---- images

    public int image() {
        kept.takeFrom(here);
        isKept = true;
        return 1;
    }

    public int undo() {
        if (!isKept) {
            return tell(NONE);
        }
        here.takeFrom(kept);
        return here.walkerCount;
    }

    public int tear() {
        int was = isKept ? 1 : 0;
        isKept = false;
        return was;
    }

    public int count(int what) {
        switch (what) {
            case 0:
                return here.walkerCount;
            case 1:
                return Long.bitCount(here.shut);
            case 2:
                return Integer.bitCount(here.lamps);
            case 3:
                return Integer.bitCount(here.river);
            case 4:
                return here.roundCount;
            case 5:
                return text.length;
            case 6:
                return here.z;
            default:
                return tell(BEYOND);
        }
    }

    public int status(int which) {
        if (which == -1) {
            return foundInAll;
        }
        if (!isWithin(which, 0, FINDINGS - 1)) {
            return tell(BEYOND);
        }
        return found[which];
    }

    // ---- what the calls share

    /** Every finding leaves through here, so that status() knows of it. */
    private int tell(int finding) {
        int which = BEYOND - finding;
        if (isWithin(which, 0, FINDINGS - 1)) {
            found[which]++;
            foundInAll++;
        }
        return finding;
    }

    private static boolean isWithin(int v, int least, int most) {
        return v >= least && v <= most;
    }

    private static boolean isSquare(int v) {
        return isWithin(v, 0, SQUARES - 1);
    }

    private static boolean isWay(int v) {
        return isWithin(v, 0, WAYS - 1);
    }

    private static boolean isKind(int v) {
        return isWithin(v, 0, KINDS - 1);
    }

    private static boolean isSheet(int v) {
        return isWithin(v, 0, SHEETS - 1);
    }

    private boolean isWalker(int v) {
        return isWithin(v, 0, here.walkerCount - 1);
    }

    private boolean isTooLate(int n) {
        return here.minute + n > LAST_MINUTE;
    }

    /** Whether a kind is another one, or stands under it. */
    private static boolean isUnder(int kind, int other) {
        int above = kind;
        for (int level = 0; level < KINDS && isKind(above); level++) {
            if (above == other) {
                return true;
            }
            above = KIND_ABOVE[above];
        }
        return false;
    }

    /** SAFE by n, if some more doors are shut. */
    private boolean isSafe(long moreShut, int n) {
        ahead.takeFrom(here);
        ahead.shut |= moreShut;
        for (int i = 0; i < n; i++) {
            if (ahead.goMinute() > 0) {
                return false;
            }
        }
        return true;
    }

    /** Puts the open doors between the river and what is dry into banks, in their order: how many. */
    private int findBanks() {
        int many = 0;
        for (int door = 0; door < DOOR_NUMBERS; door++) {
            int lesser = door / 2;
            int greater = Ward.squareBeside(lesser, door % 2 == 0 ? 1 : 2);
            boolean isBank = greater >= 0 && !here.isShut(door) && here.isRiver(lesser) != here.isRiver(greater);
            if (isBank && many < MOST_DOORS) {
                banks[many] = door;
                many++;
            }
        }
        return many;
    }

    /** The least of the smallest sets of the first banks that make it safe by n, or -1. */
    private int leastBars(int many, int n) {
        for (int size = 0; size <= many; size++) {
            for (int set = 0; set < 1 << many; set++) {
                if (Integer.bitCount(set) == size && isSafe(doorsOf(set, many), n)) {
                    return set;
                }
            }
        }
        return -1;
    }

    private long doorsOf(int set, int many) {
        long doors = 0L;
        for (int i = 0; i < many; i++) {
            if ((set >> i & 1) != 0) {
                doors |= 1L << banks[i];
            }
        }
        return doors;
    }

    /** The places of all walkers on n minutes with such lamps, a byte each. */
    private long placesWithLamps(int lamps, int n) {
        ahead.takeFrom(here);
        ahead.lamps = lamps;
        ahead.goMinutes(n);
        long places = 0L;
        for (int i = 0; i < ahead.walkerCount; i++) {
            places |= (long) ahead.walkers[i].place << 8 * i;
        }
        return places;
    }

    /** In how many of its bytes one number isn't as another. */
    private static int countOthers(long one, long other) {
        int others = 0;
        for (int i = 0; i < MOST_WALKERS; i++) {
            if (((one ^ other) >>> 8 * i & 255L) != 0L) {
                others++;
            }
        }
        return others;
    }

    /** Puts the odds of one who wanders from a square for n minutes into parts. */
    private void spreadOdds(int from, int n) {
        Arrays.fill(parts, 0L);
        parts[from] = 1L;
        for (int i = 0; i < n; i++) {
            Arrays.fill(nextParts, 0L);
            for (int square = 0; square < SQUARES; square++) {
                spreadFrom(square);
            }
            System.arraycopy(nextParts, 0, parts, 0, SQUARES);
        }
    }

    private void spreadFrom(int square) {
        int ways = here.isRiver(square) ? 0 : here.waysFrom(square);
        if (ways == 0) {
            nextParts[square] += PARTS * parts[square];
            return;
        }
        long share = PARTS / Integer.bitCount(ways) * parts[square];
        for (int way = 0; way < WAYS; way++) {
            int there = (ways >> way & 1) != 0 ? Ward.squareBeside(square, way) : -1;
            if (there >= 0) {
                nextParts[there] += share;
            }
        }
    }

    private static final class Walker {
        int kind = WALKER;
        int home = 0;
        int place = 0;
        int way = 0;
        boolean awake = false;

        void takeFrom(Walker other) {
            kind = other.kind;
            home = other.home;
            place = other.place;
            way = other.way;
            awake = other.awake;
        }
    }

    /** All that an image keeps. */
    private static final class Ward {
        long shut = 0L;
        final int[] heights = new int[SQUARES];
        int lamps = 0;
        int river = 0;
        int moon = 0;
        int minute = 0;
        int z = 1;
        int watcher = 0;
        final int[] rounds = new int[MOST_ROUNDS];
        int roundCount = 0;
        /** Where in the rounds the watcher went last; -1: it begins them yet. */
        int lastRound = -1;
        final Walker[] walkers = new Walker[MOST_WALKERS];
        int walkerCount = 0;

        Ward() {
            Arrays.fill(heights, 5);
            for (int i = 0; i < MOST_WALKERS; i++) {
                walkers[i] = new Walker();
            }
        }

        void takeFrom(Ward other) {
            shut = other.shut;
            System.arraycopy(other.heights, 0, heights, 0, SQUARES);
            lamps = other.lamps;
            river = other.river;
            moon = other.moon;
            minute = other.minute;
            z = other.z;
            watcher = other.watcher;
            System.arraycopy(other.rounds, 0, rounds, 0, MOST_ROUNDS);
            roundCount = other.roundCount;
            lastRound = other.lastRound;
            walkerCount = other.walkerCount;
            for (int i = 0; i < walkerCount; i++) {
                walkers[i].takeFrom(other.walkers[i]);
            }
        }

        /** The square in a way from another one, or -1. */
        static int squareBeside(int square, int way) {
            switch (way) {
                case 0:
                    return square >= SIDE ? square - SIDE : -1;
                case 1:
                    return square % SIDE < SIDE - 1 ? square + 1 : -1;
                case 2:
                    return square < SQUARES - SIDE ? square + SIDE : -1;
                default:
                    return square % SIDE > 0 ? square - 1 : -1;
            }
        }

        /** The door between two squares, or -1 if they aren't beside one another. */
        static int doorBetween(int one, int other) {
            if (!isSquare(one) || !isSquare(other)) {
                return -1;
            }
            int lesser = Math.min(one, other);
            int greater = Math.max(one, other);
            if (squareBeside(lesser, 1) == greater) {
                return 2 * lesser;
            }
            return squareBeside(lesser, 2) == greater ? 2 * lesser + 1 : -1;
        }

        boolean isShut(int door) {
            return (shut >>> door & 1L) != 0L;
        }

        /** Opens or shuts a door: whether that is new. */
        boolean putDoor(int door, boolean open) {
            boolean isNew = isShut(door) == open;
            shut = open ? shut & ~(1L << door) : shut | 1L << door;
            return isNew;
        }

        boolean hasLamp(int square) {
            return (lamps >> square & 1) != 0;
        }

        boolean putLamp(int square, boolean is) {
            boolean isNew = hasLamp(square) != is;
            lamps = is ? lamps | 1 << square : lamps & ~(1 << square);
            return isNew;
        }

        boolean isRiver(int square) {
            return (river >> square & 1) != 0;
        }

        boolean putRiver(int square, boolean is) {
            boolean isNew = isRiver(square) != is;
            river = is ? river | 1 << square : river & ~(1 << square);
            return isNew;
        }

        void addRound(int square) {
            rounds[roundCount] = square;
            roundCount++;
        }

        void emptyRounds() {
            roundCount = 0;
            lastRound = -1;
        }

        void addWalker(int kind, int square, int way) {
            Walker one = walkers[walkerCount];
            one.kind = kind;
            one.home = square;
            one.place = square;
            one.way = way;
            one.awake = false;
            walkerCount++;
        }

        /** The walkers in a square, as a set: none, if the number is no square's. */
        int walkersAt(long square) {
            int set = 0;
            for (int i = 0; i < walkerCount; i++) {
                if (walkers[i].place == square) {
                    set |= 1 << i;
                }
            }
            return set;
        }

        int awakeCount() {
            int many = 0;
            for (int i = 0; i < walkerCount; i++) {
                many += walkers[i].awake ? 1 : 0;
            }
            return many;
        }

        int riverCount() {
            int many = 0;
            for (int i = 0; i < walkerCount; i++) {
                many += isRiver(walkers[i].place) ? 1 : 0;
            }
            return many;
        }

        int homeCount() {
            int many = 0;
            for (int i = 0; i < walkerCount; i++) {
                many += walkers[i].place == walkers[i].home ? 1 : 0;
            }
            return many;
        }

        /** The ways in which one may go from a square, as a set. */
        int waysFrom(int square) {
            int ways = 0;
            if (square >= SIDE && !isShut(2 * (square - SIDE) + 1)) {
                ways |= 1;
            }
            if (square % SIDE < SIDE - 1 && !isShut(2 * square)) {
                ways |= 2;
            }
            if (square < SQUARES - SIDE && !isShut(2 * square + 1)) {
                ways |= 4;
            }
            if (square % SIDE > 0 && !isShut(2 * (square - 1))) {
                ways |= 8;
            }
            return ways;
        }

        /** The way in which a walker goes in this minute, or -1; it may draw. */
        int stepOf(Walker one) {
            int ways = waysFrom(one.place);
            switch (one.kind) {
                case SLOPER:
                    return slopeStep(one, ways);
                case LAMPER:
                    return lampStep(one, ways);
                case HOMER:
                    return one.place == one.home && minute != 0 ? -1 : slopeStep(one, ways);
                case WANDERER:
                    return drawnStep(ways);
                case MOONER:
                    if (moon == MOST_MOON) {
                        return lampStep(one, ways);
                    }
                    return minute < 60 * moon ? plainStep(one.way, ways) : -1;
                default:
                    return plainStep(one.way, ways);
            }
        }

        /** The first way of a set, from one on; -1 if it is empty. */
        static int plainStep(int from, int ways) {
            for (int i = 0; i < WAYS; i++) {
                int way = (from + i) % WAYS;
                if ((ways >> way & 1) != 0) {
                    return way;
                }
            }
            return -1;
        }

        int slopeStep(Walker one, int ways) {
            int best = -1;
            int least = heights[one.place];
            for (int way = 0; way < WAYS; way++) {
                int there = (ways >> way & 1) != 0 ? squareBeside(one.place, way) : -1;
                if (there >= 0 && heights[there] < least) {
                    least = heights[there];
                    best = way;
                }
            }
            return best >= 0 ? best : plainStep(one.way, ways);
        }

        int lampStep(Walker one, int ways) {
            int lit = 0;
            for (int way = 0; way < WAYS; way++) {
                int there = (ways >> way & 1) != 0 ? squareBeside(one.place, way) : -1;
                if (there >= 0 && hasLamp(there)) {
                    lit |= 1 << way;
                }
            }
            return plainStep(one.way, lit != 0 ? lit : ways);
        }

        int drawnStep(int ways) {
            int many = Integer.bitCount(ways);
            if (many == 0) {
                return -1;
            }
            z = z * 1103515245 + 12345;
            int left = (z >>> 8) % many;
            for (int way = 0; way < WAYS; way++) {
                if ((ways >> way & 1) != 0) {
                    if (left == 0) {
                        return way;
                    }
                    left--;
                }
            }
            return -1;
        }

        /** n minutes go: how many came into the river. */
        int goMinutes(int n) {
            int came = 0;
            for (int i = 0; i < n; i++) {
                came += goMinute();
            }
            return came;
        }

        /** A minute goes: how many came into the river. */
        int goMinute() {
            int came = 0;
            for (int i = 0; i < walkerCount; i++) {
                Walker one = walkers[i];
                int way = one.awake || isRiver(one.place) ? -1 : stepOf(one);
                int there = way >= 0 ? squareBeside(one.place, way) : -1;
                if (there >= 0) {
                    one.way = way;
                    one.place = there;
                    came += isRiver(there) ? 1 : 0;
                }
            }
            for (int i = 0; i < walkerCount; i++) {
                Walker one = walkers[i];
                if (one.place == watcher && !isRiver(watcher)) {
                    one.awake = true;
                }
            }
            if (roundCount > 0) {
                lastRound = lastRound + 1 < roundCount ? lastRound + 1 : 0;
                watcher = rounds[lastRound];
            }
            minute++;
            return came;
        }
    }

    /** A row of numbers that all have as many bits; none of them: it is missing. */
    private static final class Sheet {
        int bits = 0;
        int length = 0;
        final long[] numbers = new long[MOST_NUMBERS];

        boolean isMissing() {
            return bits == 0;
        }

        void clear(int newBits, int newLength) {
            bits = newBits;
            length = newBits == 0 ? 0 : newLength;
            Arrays.fill(numbers, 0L);
        }

        void putNumber(int i, long v) {
            numbers[i] = v << 64 - bits >> 64 - bits;
        }

        /** Whether there are n numbers from one on. */
        boolean hasRun(int from, int n) {
            return from >= 0 && n >= 0 && n <= length && from <= length - n;
        }
    }

    /** The tape, and what reads it as the text of a ward. */
    private static final class Text {
        private static final int END = 0;
        private static final int WORD = 1;
        private static final int NUMBER = 2;
        private static final int SIGN = 3;
        private static final int NOTHING = 4;
        /** Above all numbers that may be; longer ones count no further. */
        private static final int TOO_MUCH = 10000;

        final byte[] bytes = new byte[MOST_BYTES];
        int length = 0;
        /** Where the text goes wrong, or -1. */
        int fault = -1;
        /** The token that comes next: what it is, its first byte and the one behind it, its number. */
        private int token = END;
        private int start = 0;
        private int end = 0;
        private int number = 0;

        void addByte(int b) {
            bytes[length] = (byte) b;
            length++;
        }

        /** Reads all items into a ward, which is spoilt if there is a fault: how many. */
        int readItems(Ward ward) {
            fault = -1;
            end = 0;
            nextToken();
            for (int items = 1; items <= MOST_BYTES; items++) {
                readItem(ward);
                if (fault >= 0) {
                    return 0;
                }
                if (token == END) {
                    return items;
                }
                if (token != SIGN) {
                    fault = start;
                    return 0;
                }
                nextToken();
            }
            return 0;
        }

        private void readItem(Ward ward) {
            if (takesWord("shut")) {
                readDoor(ward, false);
            } else if (takesWord("open")) {
                readDoor(ward, true);
            } else if (takesWord("height")) {
                readHeight(ward);
            } else if (takesWord("lamp")) {
                int square = takeNumber(SQUARES - 1);
                if (square >= 0) {
                    ward.putLamp(square, true);
                }
            } else if (takesWord("river")) {
                readRiver(ward, true);
            } else if (takesWord("dry")) {
                readRiver(ward, false);
            } else if (takesWord("moon")) {
                int moon = takeNumber(MOST_MOON);
                if (moon >= 0) {
                    ward.moon = moon;
                }
            } else if (takesWord("rounds")) {
                readRounds(ward);
            } else {
                readWalker(ward);
            }
        }

        private void readDoor(Ward ward, boolean open) {
            int one = takeNumber(SQUARES - 1);
            if (one < 0) {
                return;
            }
            int door = token == NUMBER ? Ward.doorBetween(one, number) : -1;
            if (door < 0) {
                fault = start;
                return;
            }
            nextToken();
            ward.putDoor(door, open);
        }

        private void readHeight(Ward ward) {
            int square = takeNumber(SQUARES - 1);
            if (square < 0) {
                return;
            }
            int height = takeNumber(MOST_HEIGHT);
            if (height >= 0) {
                ward.heights[square] = height;
            }
        }

        private void readRiver(Ward ward, boolean is) {
            int square = takeNumber(SQUARES - 1);
            if (square >= 0) {
                ward.putRiver(square, is);
            }
        }

        private void readRounds(Ward ward) {
            ward.emptyRounds();
            // a thirteenth number is left standing: it is a fault, since an item ends ahead of it
            for (int i = 0; i < MOST_ROUNDS && (i == 0 || token == NUMBER); i++) {
                int square = takeNumber(SQUARES - 1);
                if (square < 0) {
                    return;
                }
                ward.addRound(square);
            }
        }

        private void readWalker(Ward ward) {
            int kind = kindOfWord();
            if (kind < 0 || ward.walkerCount >= MOST_WALKERS) {
                fault = start;
                return;
            }
            nextToken();
            if (!takesWord("at")) {
                fault = start;
                return;
            }
            int square = takeNumber(SQUARES - 1);
            if (square < 0) {
                return;
            }
            int way = takesWord("way") ? takeNumber(WAYS - 1) : 0;
            if (way >= 0) {
                ward.addWalker(kind, square, way);
            }
        }

        private int kindOfWord() {
            for (int kind = 0; kind < KINDS; kind++) {
                if (isWord(nameOf(kind))) {
                    return kind;
                }
            }
            return -1;
        }

        private static String nameOf(int kind) {
            switch (kind) {
                case SLOPER:
                    return "sloper";
                case LAMPER:
                    return "lamper";
                case HOMER:
                    return "homer";
                case WANDERER:
                    return "wanderer";
                case MOONER:
                    return "mooner";
                default:
                    return "walker";
            }
        }

        /** Goes behind the token if it is a word: whether it was. */
        private boolean takesWord(String word) {
            if (!isWord(word)) {
                return false;
            }
            nextToken();
            return true;
        }

        /** Goes behind a number from 0 to one and answers it; else there is a fault, and the answer is -1. */
        private int takeNumber(int most) {
            if (token != NUMBER || number > most) {
                fault = start;
                return -1;
            }
            int taken = number;
            nextToken();
            return taken;
        }

        private boolean isWord(String word) {
            if (token != WORD || end - start != word.length()) {
                return false;
            }
            for (int i = 0; i < word.length(); i++) {
                if (bytes[start + i] != word.charAt(i)) {
                    return false;
                }
            }
            return true;
        }

        private void nextToken() {
            start = end;
            while (start < length && bytes[start] == ' ') {
                start++;
            }
            end = start;
            number = 0;
            if (start >= length) {
                token = END;
            } else if (isLetter(bytes[start])) {
                token = WORD;
                while (end < length && isLetter(bytes[end])) {
                    end++;
                }
            } else if (isDigit(bytes[start])) {
                token = NUMBER;
                while (end < length && isDigit(bytes[end])) {
                    number = Math.min(TOO_MUCH, number * 10 + bytes[end] - '0');
                    end++;
                }
            } else {
                token = bytes[start] == ';' ? SIGN : NOTHING;
                end++;
            }
        }

        private static boolean isLetter(byte b) {
            return b >= 'a' && b <= 'z';
        }

        private static boolean isDigit(byte b) {
            return b >= '0' && b <= '9';
        }
    }
}
