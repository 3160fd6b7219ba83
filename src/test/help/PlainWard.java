import java.math.BigInteger;
import java.util.ArrayList;
import java.util.Arrays;
import java.util.List;
import java.util.Set;
import java.util.TreeSet;

/**
 * The document once more, written apart from the class and with the Java library: slow and plain.
 * It answers by name and arguments, so that random runs can be laid beside those of the class.
 */
final class PlainWard {
    static final class Finding extends RuntimeException {
        private static final long serialVersionUID = 1L;
        final int number;

        Finding(int number) {
            super(null, null, false, false);
            this.number = number;
        }
    }

    static class Folk {
        int home;
        int row;
        int column;
        int way;
        boolean awake;
        int kind;

        int place() {
            return 5 * row + column;
        }

        void goTo(int square) {
            row = square / 5;
            column = square % 5;
        }

        Folk twin() {
            Folk t = new Folk();
            t.home = home;
            t.row = row;
            t.column = column;
            t.way = way;
            t.awake = awake;
            t.kind = kind;
            return t;
        }
    }

    /** Section 1, but for the tape. */
    static final class Scene {
        Set<List<Integer>> shut = new java.util.HashSet<>();
        int[] height = new int[25];
        Set<Integer> lamps = new TreeSet<>();
        Set<Integer> river = new TreeSet<>();
        int moon = 0;
        int minute = 0;
        int z = 1;
        int watcher = 0;
        List<Integer> rounds = new ArrayList<>();
        Integer wentTo = null;
        List<Folk> folk = new ArrayList<>();

        Scene twin() {
            Scene t = new Scene();
            t.shut = new java.util.HashSet<>(shut);
            t.height = height.clone();
            t.lamps = new TreeSet<>(lamps);
            t.river = new TreeSet<>(river);
            t.moon = moon;
            t.minute = minute;
            t.z = z;
            t.watcher = watcher;
            t.rounds = new ArrayList<>(rounds);
            t.wentTo = wentTo;
            for (Folk f : folk) {
                t.folk.add(f.twin());
            }
            return t;
        }

        static int to(int square, int way) {
            int row = square / 5 + new int[] {-1, 0, 1, 0}[way];
            int column = square % 5 + new int[] {0, 1, 0, -1}[way];
            return row < 0 || row > 4 || column < 0 || column > 4 ? -1 : 5 * row + column;
        }

        boolean may(int square, int way) {
            int there = to(square, way);
            return there >= 0 && !shut.contains(List.of(Math.min(square, there), Math.max(square, there)));
        }

        List<Integer> mays(int square) {
            List<Integer> ways = new ArrayList<>();
            for (int way = 0; way < 4; way++) {
                if (may(square, way)) {
                    ways.add(way);
                }
            }
            return ways;
        }

        int stepAs(Folk f, int kind) {
            int at = f.place();
            if (kind == 0) {
                for (int more = 0; more < 4; more++) {
                    if (may(at, (f.way + more) % 4)) {
                        return (f.way + more) % 4;
                    }
                }
                return -1;
            }
            if (kind == 1) {
                return mays(at).stream().filter(w -> height[to(at, w)] < height[at])
                    .min((a, b) -> height[to(at, a)] != height[to(at, b)]
                        ? Integer.compare(height[to(at, a)], height[to(at, b)]) : Integer.compare(a, b))
                    .orElseGet(() -> stepAs(f, 0));
            }
            if (kind == 2) {
                for (int more = 0; more < 4; more++) {
                    int way = (f.way + more) % 4;
                    if (may(at, way) && lamps.contains(to(at, way))) {
                        return way;
                    }
                }
                return stepAs(f, 0);
            }
            if (kind == 3) {
                return at == f.home && minute != 0 ? -1 : stepAs(f, 1);
            }
            if (kind == 4) {
                List<Integer> ways = mays(at);
                if (ways.isEmpty()) {
                    return -1;
                }
                z = (int) ((z & 0xffffffffL) * 1103515245L + 12345L);
                return ways.get((int) ((z & 0xffffffffL) / 256 % ways.size()));
            }
            if (moon == 4) {
                return stepAs(f, 2);
            }
            return minute < 60 * moon ? stepAs(f, 0) : -1;
        }

        void minute() {
            for (Folk f : folk) {
                if (!f.awake && !river.contains(f.place())) {
                    int way = stepAs(f, f.kind);
                    if (way != -1) {
                        f.goTo(to(f.place(), way));
                        f.way = way;
                    }
                }
            }
            for (Folk f : folk) {
                if (!f.awake && !river.contains(f.place()) && f.place() == watcher) {
                    f.awake = true;
                }
            }
            if (!rounds.isEmpty()) {
                wentTo = wentTo == null ? 0 : (wentTo + 1) % rounds.size();
                watcher = rounds.get(wentTo);
            }
            minute++;
        }

        Scene on(int n) {
            Scene t = twin();
            for (int i = 0; i < n; i++) {
                t.minute();
            }
            return t;
        }

        Set<Integer> wet() {
            Set<Integer> w = new TreeSet<>();
            for (int i = 0; i < folk.size(); i++) {
                if (river.contains(folk.get(i).place())) {
                    w.add(i);
                }
            }
            return w;
        }

        boolean safe(int n) {
            Set<Integer> before = wet();
            Scene t = twin();
            for (int i = 0; i < n; i++) {
                t.minute();
                if (!before.containsAll(t.wet())) {
                    return false;
                }
            }
            return true;
        }

        long awake() {
            return folk.stream().filter(f -> f.awake).count();
        }
    }

    private static final String[] NAMES = {"walker", "sloper", "lamper", "homer", "wanderer", "mooner"};

    private Scene now = new Scene();
    private Scene kept = null;
    private String tape = "";
    private final long[][] sheets = new long[4][];
    private final int[] bits = new int[4];
    private final int[] found = new int[7];

    PlainWard() {
        Arrays.fill(now.height, 5);
    }

    /** What a call answers; a finding is counted. */
    long answer(String name, long... a) {
        try {
            return act(name, a);
        } catch (Finding f) {
            found[-1000000001 - f.number]++;
            return f.number;
        }
    }

    private static void unless(boolean is, int finding) {
        if (!is) {
            throw new Finding(finding);
        }
    }

    private static void within(long v, long least, long most) {
        unless(least <= v && v <= most, Due.BEYOND);
    }

    private Folk folk(long i) {
        within(i, 0, now.folk.size() - 1);
        return now.folk.get((int) i);
    }

    private static List<Integer> door(long one, long other) {
        within(one, 0, 24);
        within(other, 0, 24);
        for (int way = 0; way < 4; way++) {
            if (Scene.to((int) one, way) == other) {
                return List.of((int) Math.min(one, other), (int) Math.max(one, other));
            }
        }
        throw new Finding(Due.BEYOND);
    }

    private void notLate(long n) {
        unless(now.minute + n <= 9999, Due.STATE);
    }

    private long act(String name, long[] a) {
        switch (name) {
            case "door":
                return (a[2] == 1 ? now.shut.remove(door(a[0], a[1])) : now.shut.add(door(a[0], a[1]))) ? 1 : 0;
            case "isOpen":
                return now.shut.contains(door(a[0], a[1])) ? 0 : 1;
            case "height":
                within(a[0], 0, 24);
                within(a[1], 0, 9);
                int height = now.height[(int) a[0]];
                now.height[(int) a[0]] = (int) a[1];
                return height;
            case "mark":
                within(a[0], 0, 24);
                within(a[1], 0, 1);
                Set<Integer> marks = a[1] == 0 ? now.lamps : now.river;
                return (a[2] == 1 ? marks.add((int) a[0]) : marks.remove((int) a[0])) ? 1 : 0;
            case "squareOf":
                return squareOf(a[0], a[1]);
            case "moon":
                within(a[0], 0, 4);
                int moon = now.moon;
                now.moon = (int) a[0];
                return moon;
            case "round":
                within(a[0], 0, 24);
                unless(now.rounds.size() < 12, Due.FULL);
                now.rounds.add((int) a[0]);
                return now.rounds.size();
            case "rest":
                int rounds = now.rounds.size();
                now.rounds.clear();
                now.wentTo = null;
                return rounds;
            case "walker":
                within(a[0], 0, 5);
                within(a[1], 0, 24);
                within(a[2], 0, 3);
                unless(now.folk.size() < 8, Due.FULL);
                newcomer(now, (int) a[0], (int) a[1], (int) a[2]);
                return now.folk.size() - 1;
            case "of":
            case "set":
            case "wake":
            case "turn":
            case "as":
            case "step":
                return actOnWalker(name, folk(a[0]), a);
            case "minutes":
            case "bed":
            case "seed":
            case "now":
                return actOnMinutes(name, a);
            case "feed":
            case "wipe":
            case "ward":
                return actOnText(name, a);
            case "sheet":
            case "write":
            case "copy":
            case "lays":
            case "track":
            case "whose":
                return actOnSheets(name, a);
            case "image":
                kept = now.twin();
                return 1;
            case "undo":
                unless(kept != null, Due.NONE);
                now = kept.twin();
                return now.folk.size();
            case "tear":
                int was = kept == null ? 0 : 1;
                kept = null;
                return was;
            case "count":
                within(a[0], 0, 6);
                return new int[] {now.folk.size(), now.shut.size(), now.lamps.size(), now.river.size(),
                    now.rounds.size(), tape.length(), now.z}[(int) a[0]];
            case "status":
                within(a[0], -1, 6);
                return a[0] == -1 ? Arrays.stream(found).sum() : found[(int) a[0]];
            default:
                return actOn(name, a);
        }
    }

    private static void newcomer(Scene scene, int kind, int square, int way) {
        Folk f = new Folk();
        f.kind = kind;
        f.home = square;
        f.goTo(square);
        f.way = way;
        scene.folk.add(f);
    }

    private long squareOf(long square, long what) {
        within(square, 0, 24);
        within(what, 0, 3);
        int s = (int) square;
        if (what < 3) {
            return what == 0 ? now.height[s] : (what == 1 ? now.lamps : now.river).contains(s) ? 1 : 0;
        }
        int set = 0;
        for (int i = 0; i < now.folk.size(); i++) {
            set += now.folk.get(i).place() == s ? 1 << i : 0;
        }
        return set;
    }

    private long actOnWalker(String name, Folk f, long[] a) {
        int was;
        switch (name) {
            case "of":
                within(a[1], 0, 5);
                int ways = now.mays(f.place()).stream().mapToInt(w -> 1 << w).sum();
                return new int[] {f.kind, f.home, f.place(), f.way, f.awake ? 1 : 0, ways}[(int) a[1]];
            case "set":
                within(a[1], 1, 3);
                within(a[2], 0, a[1] == 3 ? 3 : 24);
                was = new int[] {f.home, f.place(), f.way}[(int) a[1] - 1];
                if (a[1] == 1) {
                    f.home = (int) a[2];
                } else if (a[1] == 2) {
                    f.goTo((int) a[2]);
                } else {
                    f.way = (int) a[2];
                }
                return was;
            case "wake":
                boolean isNew = f.awake != (a[1] == 1);
                f.awake = a[1] == 1;
                return isNew ? 1 : 0;
            case "turn":
                within(a[1], 0, 5);
                was = f.kind;
                f.kind = (int) a[1];
                return was;
            case "as":
                within(a[1], 0, 5);
                String line = new String[] {"0", "10", "20", "310", "40", "520"}[f.kind];
                unless(line.contains("" + a[1]), Due.KIND);
                return f.place();
            default:
                Scene t = now.twin();
                return t.stepAs(t.folk.get((int) a[0]), f.kind);
        }
    }

    private long actOnMinutes(String name, long[] a) {
        switch (name) {
            case "minutes":
                within(a[0], 1, 500);
                notLate(a[0]);
                Set<Integer> before = now.wet();
                now = now.on((int) a[0]);
                Set<Integer> after = now.wet();
                after.removeAll(before);
                return after.size();
            case "bed":
                int away = 0;
                for (Folk f : now.folk) {
                    away += f.place() != f.home ? 1 : 0;
                    f.goTo(f.home);
                    f.awake = false;
                }
                now.minute = 0;
                return away;
            case "seed":
                int z = now.z;
                now.z = (int) a[0];
                return z;
            default:
                within(a[0], 0, 5);
                return new long[] {now.minute, now.moon, now.watcher, now.awake(), now.wet().size(),
                    now.folk.stream().filter(f -> f.place() == f.home).count()}[(int) a[0]];
        }
    }

    private long actOn(String name, long[] a) {
        switch (name) {
            case "on":
                folk(a[0]);
                within(a[1], 0, 500);
                notLate(a[1]);
                return now.on((int) a[1]).folk.get((int) a[0]).place();
            case "river":
            case "meet":
            case "home":
                return firstMinute(name, a);
            case "safe":
                within(a[0], 1, 500);
                notLate(a[0]);
                return now.safe((int) a[0]) ? 1 : 0;
            case "barred":
                return barred((int) a[0], a[1]);
            case "lamp":
                return lamp((int) a[0]);
            case "watch":
                within(a[0], 1, 120);
                notLate(a[0]);
                int best = 0;
                long most = -1;
                for (int square = 0; square < 25; square++) {
                    Scene t = now.twin();
                    t.rounds.clear();
                    t.watcher = square;
                    long awake = t.on((int) a[0]).awake();
                    best = awake > most ? square : best;
                    most = Math.max(most, awake);
                }
                return best;
            case "loop":
                return loop(folk(a[0]));
            case "odds":
                folk(a[0]);
                within(a[1], 0, 24);
                within(a[2], 0, 15);
                return odds(folk(a[0]), (int) a[2])[(int) a[1]].longValueExact();
            case "likeliest":
                folk(a[0]);
                within(a[1], 0, 15);
                BigInteger[] odds = odds(folk(a[0]), (int) a[1]);
                return Arrays.asList(odds).indexOf(Arrays.stream(odds).max(BigInteger::compareTo).get());
            default:
                throw new IllegalStateException(name);
        }
    }

    private long firstMinute(String name, long[] a) {
        folk(a[0]);
        if (name.equals("meet")) {
            folk(a[1]);
            unless(a[0] != a[1], Due.BEYOND);
        }
        unless(now.minute <= 9499, Due.STATE);
        Scene t = now.twin();
        for (int n = 0; n <= 500; n++) {
            Folk f = t.folk.get((int) a[0]);
            boolean is = name.equals("river") ? t.river.contains(f.place())
                : name.equals("meet") ? f.place() == t.folk.get((int) a[1]).place()
                : n > 0 && f.place() == f.home;
            if (is) {
                return n;
            }
            t.minute();
        }
        throw new Finding(Due.NONE);
    }

    private long barred(int n, long what) {
        within(n, 1, 120);
        within(what, 0, 1);
        notLate(n);
        List<List<Integer>> doors = new ArrayList<>();
        for (int one = 0; one < 25; one++) {
            for (int other = one + 1; other < 25; other++) {
                boolean beside = Scene.to(one, 1) == other || Scene.to(one, 2) == other;
                if (beside && now.river.contains(one) != now.river.contains(other)
                    && !now.shut.contains(List.of(one, other))) {
                    doors.add(List.of(one, other));
                }
            }
        }
        unless(doors.size() <= 12, Due.SIZE);
        int best = -1;
        for (int set = 0; set < 1 << doors.size(); set++) {
            if (best < 0 || Integer.bitCount(set) < Integer.bitCount(best)) {
                Scene t = now.twin();
                for (int i = 0; i < doors.size(); i++) {
                    if ((set & 1 << i) != 0) {
                        t.shut.add(doors.get(i));
                    }
                }
                best = t.safe(n) ? set : best;
            }
        }
        unless(best >= 0, Due.NONE);
        return what == 0 ? Integer.bitCount(best) : best;
    }

    private long lamp(int n) {
        within(n, 1, 120);
        notLate(n);
        Scene without = now.on(n);
        int best = -1;
        int most = 0;
        for (int square = 0; square < 25; square++) {
            Scene with = now.twin();
            with.lamps.add(square);
            with = with.on(n);
            int others = 0;
            for (int i = 0; i < now.folk.size(); i++) {
                others += with.folk.get(i).place() != without.folk.get(i).place() ? 1 : 0;
            }
            if (others > most) {
                most = others;
                best = square;
            }
        }
        unless(best >= 0, Due.NONE);
        return best;
    }

    private long loop(Folk f) {
        unless(f.kind == 0 && !f.awake && !now.river.contains(f.place()), Due.STATE);
        Scene t = now.twin();
        Folk alone = f.twin();
        t.folk = new ArrayList<>(List.of(alone));
        t.rounds.clear();
        t.watcher = -1;
        for (int n = 1; n <= 500; n++) {
            t.minute();
            if (alone.place() == f.place() && alone.way == f.way) {
                return n;
            }
        }
        throw new Finding(Due.NONE);
    }

    private BigInteger[] odds(Folk f, int n) {
        unless(f.kind == 4, Due.STATE);
        BigInteger[] odds = new BigInteger[25];
        Arrays.fill(odds, BigInteger.ZERO);
        odds[f.place()] = BigInteger.ONE;
        for (int i = 0; i < n; i++) {
            BigInteger[] next = new BigInteger[25];
            Arrays.fill(next, BigInteger.ZERO);
            for (int square = 0; square < 25; square++) {
                List<Integer> ways = now.river.contains(square) ? List.of() : now.mays(square);
                BigInteger twelve = odds[square].multiply(BigInteger.valueOf(12));
                if (ways.isEmpty()) {
                    next[square] = next[square].add(twelve);
                }
                for (int way : ways) {
                    int there = Scene.to(square, way);
                    next[there] = next[there].add(twelve.divide(BigInteger.valueOf(ways.size())));
                }
            }
            odds = next;
        }
        return odds;
    }

    private long actOnText(String name, long[] a) {
        int had = tape.length();
        switch (name) {
            case "feed":
                within(a[1], 1, 4);
                unless(had + a[1] <= 120, Due.FULL);
                byte[] four = java.nio.ByteBuffer.allocate(4).putInt((int) a[0]).array();
                for (int i = 4 - (int) a[1]; i < 4; i++) {
                    tape += (char) (four[i] & 255);
                }
                return tape.length();
            case "wipe":
                tape = "";
                return had;
            default:
                String text = tape;
                tape = "";
                Scene t = now.twin();
                Reading reading = new Reading(text, t);
                long items = reading.all();
                if (items >= 0) {
                    now = t;
                }
                return items;
        }
    }

    /** Reads by a pattern for tokens, which tells where each begins. */
    private static final class Reading {
        final Scene scene;
        final List<String> tokens = new ArrayList<>();
        final List<Integer> starts = new ArrayList<>();
        int at = 0;

        static final class Fault extends RuntimeException {
            private static final long serialVersionUID = 1L;
        }

        Reading(String text, Scene scene) {
            this.scene = scene;
            java.util.regex.Matcher m = java.util.regex.Pattern.compile("[a-z]+|[0-9]+|[^ ]",
                java.util.regex.Pattern.DOTALL).matcher(text);
            while (m.find()) {
                tokens.add(m.group());
                starts.add(m.start());
            }
            tokens.add("");
            starts.add(text.length());
        }

        long all() {
            try {
                int items = 0;
                do {
                    item();
                    items++;
                } while (takes(";"));
                if (at < tokens.size() - 1) {
                    throw new Fault();
                }
                return items;
            } catch (Fault f) {
                return -1 - starts.get(at);
            }
        }

        boolean takes(String token) {
            boolean is = tokens.get(at).equals(token);
            at += is ? 1 : 0;
            return is;
        }

        boolean isNumber() {
            return tokens.get(at).matches("[0-9]+");
        }

        int number(int most) {
            if (!isNumber() || new BigInteger(tokens.get(at)).compareTo(BigInteger.valueOf(most)) > 0) {
                throw new Fault();
            }
            return Integer.parseInt(tokens.get(at++));
        }

        void item() {
            String word = tokens.get(at);
            int kind = Arrays.asList(NAMES).indexOf(word);
            if (kind >= 0) {
                if (scene.folk.size() == 8) {
                    throw new Fault();
                }
                at++;
                if (!takes("at")) {
                    throw new Fault();
                }
                int square = number(24);
                newcomer(scene, kind, square, takes("way") ? number(3) : 0);
                return;
            }
            if (!List.of("shut", "open", "height", "lamp", "river", "dry", "moon", "rounds").contains(word)) {
                throw new Fault();
            }
            at++;
            int first = number(word.equals("moon") ? 4 : 24);
            switch (word) {
                case "shut":
                case "open":
                    int other = number(24);
                    try {
                        if (word.equals("shut")) {
                            scene.shut.add(door(first, other));
                        } else {
                            scene.shut.remove(door(first, other));
                        }
                    } catch (Finding f) {
                        at--;
                        throw new Fault();
                    }
                    break;
                case "height":
                    scene.height[first] = number(9);
                    break;
                case "lamp":
                    scene.lamps.add(first);
                    break;
                case "river":
                    scene.river.add(first);
                    break;
                case "dry":
                    scene.river.remove(first);
                    break;
                case "moon":
                    scene.moon = first;
                    break;
                default:
                    scene.rounds = new ArrayList<>(List.of(first));
                    scene.wentTo = null;
                    while (isNumber()) {
                        if (scene.rounds.size() == 12) {
                            throw new Fault();
                        }
                        scene.rounds.add(number(24));
                    }
            }
        }
    }

    private long actOnSheets(String name, long[] a) {
        within(a[0], 0, 3);
        int s = (int) a[0];
        if (name.equals("sheet")) {
            unless(List.of(0L, 8L, 16L, 64L).contains(a[1]), Due.BEYOND);
            unless(a[2] >= 0, Due.SIZE);
            within(a[2], 0, 40);
            bits[s] = (int) a[1];
            sheets[s] = a[1] == 0 ? null : new long[(int) a[2]];
            return a[1] == 0 ? 0 : a[2];
        }
        if (name.equals("copy")) {
            return copy(a);
        }
        unless(sheets[s] != null, Due.MISSING);
        long[] row = sheets[s];
        int n = row.length;
        switch (name) {
            case "write":
                within(a[1], 0, n - 1);
                long was = row[(int) a[1]];
                row[(int) a[1]] = bits[s] == 8 ? (byte) a[2] : bits[s] == 16 ? (short) a[2] : a[2];
                return was;
            case "lays":
                int came = 0;
                for (int i = 0; i < Math.min(n, 25); i++) {
                    if (row[i] >= 0 && row[i] <= 9) {
                        now.height[i] = (int) row[i];
                        came++;
                    }
                }
                return came;
            case "track":
                folk(a[1]);
                unless(now.minute <= 9499, Due.STATE);
                for (int i = 0; i < n; i++) {
                    row[i] = now.on(i).folk.get((int) a[1]).place();
                }
                return n;
            default:
                unless(now.minute <= 9499, Due.STATE);
                for (int w = 0; w < now.folk.size(); w++) {
                    boolean same = true;
                    for (int i = 0; i < n && same; i++) {
                        same = now.on(i).folk.get(w).place() == row[i];
                    }
                    if (same) {
                        return w;
                    }
                }
                throw new Finding(Due.NONE);
        }
    }

    private long copy(long[] a) {
        within(a[2], 0, 3);
        long[] source = sheets[(int) a[0]];
        long[] target = sheets[(int) a[2]];
        unless(source != null && target != null, Due.MISSING);
        unless(bits[(int) a[0]] == bits[(int) a[2]], Due.KIND);
        unless(a[1] >= 0 && a[3] >= 0 && a[4] >= 0, Due.BEYOND);
        unless(a[1] + a[4] <= source.length && a[3] + a[4] <= target.length, Due.BEYOND);
        long[] were = source.clone();
        for (int i = 0; i < a[4]; i++) {
            target[(int) a[3] + i] = were[(int) a[1] + i];
        }
        return a[4];
    }
}
