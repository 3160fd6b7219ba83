import java.lang.reflect.InvocationTargetException;
import java.lang.reflect.Method;
import java.util.Random;

/** All promises: random runs of at most 512 calls, laid beside those of PlainWard; the seeds are fixed. */
public final class RandomRunsTest {
    private static final int RUNS = 400;
    /** A text is up to 120 calls more, and nothing is promised behind the 512th. */
    private static final int CALLS = 512 - 121;
    private static int made;
    private static final String[] OFTEN = {"walker", "walker", "set", "mark", "mark", "height", "door", "door", "door",
        "minutes", "wake", "turn", "moon", "round", "seed", "text", "text"};
    private static final String[] WORDS = {"shut", "open", "height", "lamp", "river", "dry", "moon", "walker", "sloper",
        "lamper", "homer", "wanderer", "mooner", "at", "way", "rounds", ";"};

    public static void main(String[] args) throws IllegalAccessException, InvocationTargetException {
        int runs = args.length > 0 ? Integer.parseInt(args[0]) : RUNS;
        long from = args.length > 1 ? Long.parseLong(args[1]) : 0;
        for (int run = 0; run < runs; run++) {
            run(new Random(from + run), "run " + (from + run));
        }
        Due.end();
    }

    private static void run(Random r, String name) throws IllegalAccessException, InvocationTargetException {
        SleepWard x = new SleepWard();
        PlainWard plain = new PlainWard();
        Method[] methods = SleepWard.class.getDeclaredMethods();
        java.util.Arrays.sort(methods, (a, b) -> a.getName().compareTo(b.getName()));
        boolean late = r.nextInt(8) == 0;
        made = 0;
        while (made < CALLS) {
            if (late && made < 22) {
                call(x, plain, find(methods, "minutes"), new long[] {made < 18 ? 500 : 480 + r.nextInt(22)}, name);
                continue;
            }
            String often = OFTEN[r.nextInt(OFTEN.length)];
            boolean any = r.nextInt(100) < (made < 30 ? 30 : 75);
            if (!any && often.equals("text")) {
                text(x, plain, find(methods, "feed"), r, name);
                call(x, plain, find(methods, "ward"), new long[0], name);
                continue;
            }
            Method m = any ? methods[r.nextInt(methods.length)] : find(methods, often);
            if (java.lang.reflect.Modifier.isPublic(m.getModifiers())) {
                call(x, plain, m, arguments(m, r), name);
            }
        }
    }

    private static Method find(Method[] methods, String name) {
        for (Method m : methods) {
            if (m.getName().equals(name)) {
                return m;
            }
        }
        throw new IllegalStateException(name);
    }

    private static void call(SleepWard x, PlainWard plain, Method m, long[] a, String run)
            throws IllegalAccessException, InvocationTargetException {
        made++;
        Object[] boxed = new Object[a.length];
        for (int i = 0; i < a.length; i++) {
            Class<?> type = m.getParameterTypes()[i];
            boxed[i] = type == boolean.class ? (Object) (a[i] == 1) : type == long.class ? (Object) a[i] : (Object) (int) a[i];
        }
        long got = ((Number) m.invoke(x, boxed)).longValue();
        Due.is(run + ": " + m.getName() + java.util.Arrays.toString(a), got, plain.answer(m.getName(), a));
    }

    private static long[] arguments(Method m, Random r) {
        long[] a = new long[m.getParameterCount()];
        for (int i = 0; i < a.length; i++) {
            a[i] = m.getParameterTypes()[i] == boolean.class ? r.nextInt(2) : argument(m.getName(), i, r);
            if (r.nextInt(60) == 0 && m.getParameterTypes()[i] == int.class) {
                a[i] = new int[] {-1, 25, 501, 121, Integer.MIN_VALUE, Integer.MAX_VALUE}[r.nextInt(6)];
            }
        }
        if (m.getName().equals("door") || m.getName().equals("isOpen")) {
            if (r.nextInt(10) != 0) {
                a[1] = a[0] + new int[] {-5, 1, 5, -1}[r.nextInt(4)];
            }
        }
        return a;
    }

    /** Mostly such as may be, now and then one beyond. */
    private static long argument(String name, int i, Random r) {
        switch (name + i) {
            case "door0": case "door1": case "isOpen0": case "isOpen1": case "height0": case "mark0": case "squareOf0":
            case "round0": case "walker1": case "odds1":
                return r.nextInt(25);
            case "height1":
                return r.nextInt(11);
            case "mark1":
                return r.nextInt(3) % 2;
            case "squareOf1":
                return r.nextInt(5);
            case "moon0":
                return r.nextInt(5);
            case "walker0": case "turn1": case "as1":
                return r.nextInt(6);
            case "walker2":
                return r.nextInt(4);
            case "of1": case "now0":
                return r.nextInt(6);
            case "set1":
                return 1 + r.nextInt(3);
            case "set2":
                return r.nextInt(r.nextBoolean() ? 4 : 25);
            case "seed0": case "feed0":
                return r.nextInt();
            case "minutes0":
                return r.nextInt(4) == 0 ? r.nextInt(501) : 1 + r.nextInt(5);
            case "on1": case "safe0":
                return r.nextInt(501);
            case "barred0": case "lamp0": case "watch0":
                return 1 + r.nextInt(r.nextBoolean() ? 120 : 10);
            case "barred1":
                return r.nextInt(2);
            case "odds2": case "likeliest1":
                return r.nextInt(16);
            case "feed1":
                return r.nextInt(6);
            case "sheet0": case "write0": case "copy0": case "copy2": case "lays0": case "track0": case "whose0":
                return r.nextInt(40) == 0 ? 4 : r.nextInt(2);
            case "sheet1":
                return new int[] {8, 8, 8, 16, 64, 0, 32}[r.nextInt(7)];
            case "sheet2":
                return r.nextInt(20) == 0 ? 41 : r.nextInt(r.nextBoolean() ? 8 : 41);
            case "write1":
                return r.nextInt(12);
            case "write2":
                return r.nextInt(4) == 0 ? r.nextLong() : r.nextInt(12) - 1;
            case "copy1": case "copy3": case "copy4":
                return r.nextInt(6);
            case "count0": case "status0":
                return r.nextInt(9) - 1;
            default:
                return r.nextInt(r.nextInt(10) == 0 ? 9 : 4);
        }
    }

    private static void text(SleepWard x, PlainWard plain, Method feed, Random r, String name)
            throws IllegalAccessException, InvocationTargetException {
        StringBuilder text = new StringBuilder();
        int items = 1 + r.nextInt(4);
        for (int i = 0; i < items; i++) {
            text.append(i > 0 ? ";" : "").append(r.nextInt(3) == 0 ? " " : "").append(item(r));
        }
        if (r.nextInt(3) == 0) {
            spoil(text, r);
        }
        for (int i = 0; i < text.length(); ) {
            int n = Math.min(text.length() - i, 1 + r.nextInt(4));
            int bytes = r.nextInt();
            for (int j = 0; j < n; j++) {
                bytes = bytes << 8 | text.charAt(i + j);
            }
            call(x, plain, feed, new long[] {bytes, n}, name);
            i += n;
        }
    }

    private static void spoil(StringBuilder text, Random r) {
        int at = r.nextInt(text.length());
        switch (r.nextInt(4)) {
            case 0:
                text.setLength(at);
                break;
            case 1:
                text.insert(at, (char) r.nextInt(256));
                break;
            case 2:
                text.insert(at, " " + WORDS[r.nextInt(WORDS.length)] + " ");
                break;
            default:
                text.insert(at, r.nextInt(30));
        }
    }

    private static String item(Random r) {
        int square = r.nextInt(25);
        String word = WORDS[r.nextInt(WORDS.length - 1)];
        switch (word) {
            case "shut": case "open":
                return word + " " + square + " " + (square % 5 < 4 ? square + 1 : square > 4 ? square - 5 : square);
            case "height":
                return "height " + square + (r.nextBoolean() ? " 0" : " ") + r.nextInt(10);
            case "moon":
                return "moon " + r.nextInt(5);
            case "lamp": case "river": case "dry":
                return word + square;
            case "rounds":
                StringBuilder rounds = new StringBuilder("rounds");
                int many = 1 + r.nextInt(r.nextInt(4) == 0 ? 13 : 4);
                for (int i = 0; i < many; i++) {
                    rounds.append(' ').append(r.nextInt(25));
                }
                return rounds.toString();
            case "at": case "way":
                return "walker at " + square;
            default:
                return word + " at " + square + (r.nextBoolean() ? " way " + r.nextInt(4) : "");
        }
    }
}
