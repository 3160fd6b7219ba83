/** Promises 35 to 40: sheets. */
public final class SheetsTest {
    public static void main(String[] args) {
        promise35();
        promise36();
        promise37();
        promise38();
        promise39();
        promise40();
        Due.end();
    }

    private static void promise35() {
        SleepWard x = new SleepWard();
        for (int s = 0; s < 4; s++) {
            Due.is("sheet", x.sheet(s, 8, 40), 40);
            Due.is("sheet", x.sheet(s, 16, 1), 1);
            Due.is("sheet", x.sheet(s, 64, 0), 0);
        }
        Due.is("no such", x.sheet(-1, 8, 1), Due.BEYOND);
        Due.is("no such", x.sheet(4, 8, 1), Due.BEYOND);
        for (int bits : new int[] {-8, 1, 4, 7, 9, 15, 24, 32, 63, 65, 128}) {
            Due.is("bits", x.sheet(0, bits, 1), Due.BEYOND);
            Due.is("beyond first", x.sheet(0, bits, -1), Due.BEYOND);
        }
        Due.is("size", x.sheet(0, 8, -1), Due.SIZE);
        Due.is("size", x.sheet(0, 0, Integer.MIN_VALUE), Due.SIZE);
        Due.is("n", x.sheet(0, 8, 41), Due.BEYOND);
        Due.is("n", x.sheet(0, 0, 41), Due.BEYOND);
        Due.is("beyond first", x.sheet(4, 8, -1), Due.BEYOND);
        Due.is("there yet", x.write(0, 0, 1), Due.BEYOND);
        Due.is("sheet", x.sheet(0, 8, 2), 2);
        Due.is("write", x.write(0, 1, 5), 0);
        Due.is("anew", x.sheet(0, 8, 2), 2);
        Due.is("all 0", x.write(0, 1, 5), 0);
        Due.is("missing", x.sheet(0, 0, 7), 0);
        Due.is("missing", x.write(0, 1, 5), Due.MISSING);
        Due.is("missing again", x.sheet(0, 0, 40), 0);
        Due.is("anew", x.sheet(0, 64, 40), 40);
        for (int i = 0; i < 40; i++) {
            Due.is("all 0", x.write(0, i, i), 0);
        }
    }

    private static void promise36() {
        SleepWard x = new SleepWard();
        Due.is("no such", x.write(-1, 0, 0), Due.BEYOND);
        Due.is("no such", x.write(4, 0, 0), Due.BEYOND);
        Due.is("missing", x.write(3, 0, 0), Due.MISSING);
        Due.is("missing first", x.write(3, -1, 0), Due.MISSING);
        x.sheet(0, 8, 3);
        x.sheet(1, 16, 3);
        x.sheet(2, 64, 3);
        long[] numbers = {0, 1, 127, 128, 255, 256, -1, -128, -129, 32767, 32768, 65535, 65536,
            Long.MAX_VALUE, Long.MIN_VALUE, Due.BEYOND};
        for (long v : numbers) {
            x.write(0, 2, v);
            x.write(1, 2, v);
            x.write(2, 2, v);
            Due.is("8 bits", x.write(0, 2, 0), (byte) v);
            Due.is("16 bits", x.write(1, 2, 0), (short) v);
            Due.is("64 bits", x.write(2, 2, 0), v);
        }
        Due.is("others stay", x.write(0, 1, 9), 0);
        Due.is("others stay", x.write(0, 0, 8), 0);
        Due.is("i", x.write(0, 3, 1), Due.BEYOND);
        Due.is("i", x.write(0, -1, 1), Due.BEYOND);
        Due.is("it was", x.write(0, 1, 3), 9);
        Due.is("five", x.status(0), 4);
        Due.is("missing", x.status(5), 2);
    }

    private static void numbers(SleepWard x, int s, long... want) {
        for (int i = 0; i < want.length; i++) {
            long was = x.write(s, i, 0);
            Due.is("number " + i + " of sheet " + s, was, want[i]);
            x.write(s, i, was);
        }
    }

    private static void promise37() {
        SleepWard x = new SleepWard();
        x.sheet(0, 8, 5);
        x.sheet(1, 8, 3);
        x.sheet(2, 16, 5);
        for (int i = 0; i < 5; i++) {
            x.write(0, i, i + 1);
        }
        Due.is("copy", x.copy(0, 1, 1, 0, 3), 3);
        numbers(x, 1, 2, 3, 4);
        Due.is("onto itself, up", x.copy(0, 0, 0, 1, 4), 4);
        numbers(x, 0, 1, 1, 2, 3, 4);
        Due.is("onto itself, down", x.copy(0, 2, 0, 0, 3), 3);
        numbers(x, 0, 2, 3, 4, 3, 4);
        Due.is("none", x.copy(0, 5, 1, 3, 0), 0);
        Due.is("no such", x.copy(-1, 0, 1, 0, 1), Due.BEYOND);
        Due.is("no such", x.copy(0, 0, 4, 0, 1), Due.BEYOND);
        Due.is("no such first", x.copy(3, 0, 4, 0, 1), Due.BEYOND);
        Due.is("missing", x.copy(3, 0, 0, 0, 1), Due.MISSING);
        Due.is("missing", x.copy(0, 0, 3, 0, 1), Due.MISSING);
        Due.is("missing first", x.copy(0, -1, 3, 0, -1), Due.MISSING);
        Due.is("kind", x.copy(0, 0, 2, 0, 1), Due.KIND);
        Due.is("kind first", x.copy(0, 0, 2, 0, 9), Due.KIND);
        Due.is("not so many here", x.copy(1, 1, 0, 0, 3), Due.BEYOND);
        Due.is("not so many there", x.copy(0, 0, 1, 0, 4), Due.BEYOND);
        Due.is("not so many there", x.copy(0, 0, 1, 2, 2), Due.BEYOND);
        Due.is("from", x.copy(0, -1, 1, 0, 1), Due.BEYOND);
        Due.is("to", x.copy(0, 0, 1, -1, 1), Due.BEYOND);
        Due.is("n", x.copy(0, 0, 1, 0, -1), Due.BEYOND);
        Due.is("far", x.copy(0, Integer.MAX_VALUE, 1, 0, 1), Due.BEYOND);
        Due.is("far", x.copy(0, 0, 1, Integer.MAX_VALUE, 3), Due.BEYOND);
        Due.is("far", x.copy(0, 1, 1, 1, Integer.MAX_VALUE), Due.BEYOND);
        Due.is("far", x.copy(0, 0, 1, 0, Integer.MIN_VALUE), Due.BEYOND);
        numbers(x, 0, 2, 3, 4, 3, 4);
        numbers(x, 1, 2, 3, 4);
        x.sheet(3, 64, 0);
        Due.is("empty", x.copy(3, 0, 3, 0, 0), 0);
    }

    private static void promise38() {
        SleepWard x = new SleepWard();
        Due.is("no such", x.lays(-1), Due.BEYOND);
        Due.is("no such", x.lays(4), Due.BEYOND);
        Due.is("missing", x.lays(0), Due.MISSING);
        x.sheet(0, 16, 40);
        long[] numbers = {0, 9, 10, -1, 256, 7, 265};
        for (int i = 0; i < numbers.length; i++) {
            x.write(0, i, numbers[i]);
        }
        for (int i = 23; i < 40; i++) {
            x.write(0, i, 8);
        }
        x.height(3, 2);
        Due.is("how many came", x.lays(0), 25 - 4);
        int[] heights = {0, 9, 5, 2, 5, 7, 5};
        for (int i = 0; i < 25; i++) {
            Due.is("height " + i, x.squareOf(i, 0), i < 7 ? heights[i] : i < 23 ? 0 : 8);
        }
        x.sheet(1, 64, 3);
        x.write(1, 0, 0x100000003L);
        x.write(1, 1, Long.MIN_VALUE);
        x.write(1, 2, 1);
        Due.is("of 64 bits", x.lays(1), 1);
        Due.is("height", x.squareOf(0, 0), 0);
        Due.is("height", x.squareOf(2, 0), 1);
        x.sheet(1, 8, 0);
        Due.is("none", x.lays(1), 0);
    }

    private static void promise39() {
        SleepWard x = Due.told("walker at 6 way 1;wanderer at 12");
        Due.is("no such", x.track(-1, 0), Due.BEYOND);
        Due.is("no such", x.track(4, 0), Due.BEYOND);
        Due.is("missing", x.track(0, 0), Due.MISSING);
        Due.is("missing first", x.track(0, 2), Due.MISSING);
        x.sheet(0, 8, 7);
        Due.is("walker", x.track(0, 2), Due.BEYOND);
        Due.is("walker", x.track(0, -1), Due.BEYOND);
        Due.is("track", x.track(0, 0), 7);
        numbers(x, 0, 6, 7, 8, 9, 14, 19, 24);
        x.sheet(1, 64, 40);
        Due.is("track", x.track(1, 1), 40);
        for (int i = 0; i < 40; i++) {
            Due.is("track " + i, x.write(1, i, 0), x.on(1, i));
        }
        Due.is("z stays", x.count(6), 1);
        Due.is("minute stays", x.now(0), 0);
        for (int i = 0; i < 18; i++) {
            x.minutes(500);
        }
        x.minutes(499);
        Due.is("at 9499", x.track(0, 0), 7);
        x.minutes(1);
        Due.is("late", x.track(0, 0), Due.STATE);
        Due.is("walker first", x.track(0, 2), Due.BEYOND);
        x.sheet(0, 8, 0);
        Due.is("late, empty", x.track(0, 0), Due.STATE);
    }

    private static void promise40() {
        SleepWard x = new SleepWard();
        Due.is("no such", x.whose(-1), Due.BEYOND);
        Due.is("no such", x.whose(4), Due.BEYOND);
        Due.is("missing", x.whose(0), Due.MISSING);
        x.sheet(0, 8, 0);
        Due.is("nobody is there", x.whose(0), Due.NONE);
        Due.ward(x, "walker at 6 way 1;walker at 6 way 2;wanderer at 6;walker at 6 way 2", 4);
        Due.is("an empty one is of the least", x.whose(0), 0);
        x.sheet(0, 8, 1);
        x.write(0, 0, 6);
        Due.is("the least", x.whose(0), 0);
        x.sheet(0, 16, 4);
        for (int walker = 0; walker < 4; walker++) {
            x.track(0, walker);
            Due.is("whose", x.whose(0), walker == 3 ? 1 : walker);
        }
        x.track(0, 3);
        x.wake(1, true);
        Due.is("whose", x.whose(0), 3);
        x.write(0, 3, 6);
        Due.is("nobody's", x.whose(0), Due.NONE);
        x.sheet(1, 64, 1);
        x.write(1, 0, 0x100000006L);
        Due.is("no square", x.whose(1), Due.NONE);
        Due.is("z stays", x.count(6), 1);
        for (int i = 0; i < 18; i++) {
            x.minutes(500);
        }
        x.minutes(499);
        x.write(1, 0, x.of(0, 2));
        Due.is("at 9499", x.whose(1), 0);
        x.minutes(1);
        Due.is("late", x.whose(1), Due.STATE);
        Due.is("missing first", x.whose(2), Due.MISSING);
    }
}
