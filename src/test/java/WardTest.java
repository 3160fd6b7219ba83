/** Promises 1 to 9: the ward. */
public final class WardTest {
    public static void main(String[] args) {
        promise1();
        promise2and3();
        promise4();
        promise5();
        promise6();
        promise7();
        promise8();
        promise9();
        Due.end();
    }

    private static boolean beside(int one, int other) {
        if (one < 0 || one > 24 || other < 0 || other > 24) {
            return false;
        }
        return Math.abs(one / 5 - other / 5) + Math.abs(one % 5 - other % 5) == 1;
    }

    private static void promise1() {
        SleepWard x = new SleepWard();
        for (int square = 0; square < 25; square++) {
            Due.is("new height", x.squareOf(square, 0), 5);
            Due.is("new lamp", x.squareOf(square, 1), 0);
            Due.is("new river", x.squareOf(square, 2), 0);
            Due.is("new walkers there", x.squareOf(square, 3), 0);
        }
        for (int what = 0; what < 6; what++) {
            Due.is("new count(" + what + ")", x.count(what), 0);
            Due.is("new now(" + what + ")", x.now(what), 0);
        }
        Due.is("new z", x.count(6), 1);
        Due.is("new status(-1)", x.status(-1), 0);
        Due.is("new undo", x.undo(), Due.NONE);
        Due.is("new tear", x.tear(), 0);
        Due.is("new tape", x.wipe(), 0);
        for (int s = 0; s < 4; s++) {
            Due.is("new sheet", x.lays(s), Due.MISSING);
        }
    }

    private static void promise2and3() {
        for (int one = -2; one < 28; one++) {
            SleepWard y = new SleepWard();
            for (int other = -2; other < 28; other++) {
                Due.is("door " + one + " " + other, y.door(one, other, true), beside(one, other) ? 0 : Due.BEYOND);
                Due.is("isOpen " + one + " " + other, y.isOpen(one, other), beside(one, other) ? 1 : Due.BEYOND);
            }
        }
        SleepWard x = new SleepWard();
        int shut = 0;
        for (int one = 0; one < 25; one++) {
            for (int other = one; other < 25; other++) {
                if (beside(one, other)) {
                    Due.is("shut", x.door(other, one, false), 1);
                    Due.is("shut again", x.door(one, other, false), 0);
                    Due.is("is shut", x.isOpen(one, other), 0);
                    Due.is("is shut from there", x.isOpen(other, one), 0);
                    shut++;
                    Due.is("count(1)", x.count(1), shut);
                }
            }
        }
        Due.is("all doors", shut, 40);
        Due.is("open", x.door(7, 12, true), 1);
        Due.is("open again", x.door(12, 7, true), 0);
        Due.is("is open", x.isOpen(7, 12), 1);
        Due.is("its neighbour is shut", x.isOpen(7, 8), 0);
        Due.is("count(1)", x.count(1), 39);
        Due.is("row's end", x.door(4, 5, true), Due.BEYOND);
        Due.is("the same", x.isOpen(6, 6), Due.BEYOND);
        Due.is("far", x.isOpen(Integer.MIN_VALUE, Integer.MAX_VALUE), Due.BEYOND);
        Due.is("far", x.door(Integer.MAX_VALUE, Integer.MIN_VALUE, true), Due.BEYOND);
        Due.is("below", x.door(-1, 0, false), Due.BEYOND);
        Due.is("above", x.door(24, 25, false), Due.BEYOND);
        Due.is("above", x.door(24, 29, false), Due.BEYOND);
    }

    private static void promise4() {
        SleepWard x = new SleepWard();
        Due.is("height", x.height(24, 9), 5);
        Due.is("height", x.height(24, 0), 9);
        Due.is("height", x.height(24, 3), 0);
        Due.is("height", x.height(0, 4), 5);
        Due.is("below", x.height(0, -1), Due.BEYOND);
        Due.is("above", x.height(0, 10), Due.BEYOND);
        Due.is("square", x.height(-1, 1), Due.BEYOND);
        Due.is("square", x.height(25, 1), Due.BEYOND);
        Due.is("kept", x.squareOf(0, 0), 4);
        Due.is("kept", x.squareOf(24, 0), 3);
    }

    private static void promise5() {
        SleepWard x = new SleepWard();
        Due.is("no lamp", x.mark(24, 0, false), 0);
        Due.is("lamp", x.mark(24, 0, true), 1);
        Due.is("lamp", x.mark(24, 0, true), 0);
        Due.is("no river", x.squareOf(24, 2), 0);
        Due.is("river", x.mark(24, 1, true), 1);
        Due.is("river", x.mark(24, 1, true), 0);
        Due.is("river 0", x.mark(0, 1, true), 1);
        Due.is("lamps", x.count(2), 1);
        Due.is("river", x.count(3), 2);
        Due.is("lamp away", x.mark(24, 0, false), 1);
        Due.is("river still", x.squareOf(24, 2), 1);
        Due.is("river away", x.mark(24, 1, false), 1);
        Due.is("river away", x.mark(24, 1, false), 0);
        Due.is("what", x.mark(3, -1, true), Due.BEYOND);
        Due.is("what", x.mark(3, 2, true), Due.BEYOND);
        Due.is("square", x.mark(-1, 0, true), Due.BEYOND);
        Due.is("square", x.mark(25, 1, true), Due.BEYOND);
        Due.is("lamps", x.count(2), 0);
        Due.is("river", x.count(3), 1);
    }

    private static void promise6() {
        SleepWard x = new SleepWard();
        x.walker(0, 6, 0);
        x.walker(1, 7, 0);
        x.walker(2, 6, 0);
        x.height(6, 8);
        x.mark(6, 0, true);
        x.mark(7, 1, true);
        Due.is("height", x.squareOf(6, 0), 8);
        Due.is("lamp", x.squareOf(6, 1), 1);
        Due.is("river", x.squareOf(6, 2), 0);
        Due.is("walkers", x.squareOf(6, 3), 5);
        Due.is("height", x.squareOf(7, 0), 5);
        Due.is("lamp", x.squareOf(7, 1), 0);
        Due.is("river", x.squareOf(7, 2), 1);
        Due.is("walkers", x.squareOf(7, 3), 2);
        x.wake(0, true);
        Due.is("awake too", x.squareOf(6, 3), 5);
        Due.is("what", x.squareOf(6, 4), Due.BEYOND);
        Due.is("what", x.squareOf(6, -1), Due.BEYOND);
        Due.is("square", x.squareOf(25, 0), Due.BEYOND);
        Due.is("square", x.squareOf(-1, 3), Due.BEYOND);
    }

    private static void promise7() {
        SleepWard x = new SleepWard();
        Due.is("moon", x.moon(4), 0);
        Due.is("moon", x.moon(2), 4);
        Due.is("above", x.moon(5), Due.BEYOND);
        Due.is("below", x.moon(-1), Due.BEYOND);
        Due.is("kept", x.now(1), 2);
        Due.is("moon", x.moon(0), 2);
    }

    private static void promise8() {
        SleepWard x = new SleepWard();
        Due.is("square", x.round(-1), Due.BEYOND);
        Due.is("square", x.round(25), Due.BEYOND);
        for (int i = 1; i <= 12; i++) {
            Due.is("round", x.round(2 * i), i);
        }
        Due.is("full", x.round(3), Due.FULL);
        Due.is("beyond first", x.round(25), Due.BEYOND);
        Due.is("count", x.count(4), 12);
        Due.is("at 0 yet", x.now(2), 0);
        for (int i = 1; i <= 14; i++) {
            x.minutes(1);
            Due.is("watcher " + i, x.now(2), i <= 12 ? 2 * i : 2 * (i - 12));
        }
    }

    private static void promise9() {
        SleepWard x = new SleepWard();
        Due.is("none", x.rest(), 0);
        x.round(3);
        x.round(24);
        x.round(9);
        x.minutes(2);
        Due.is("rest", x.rest(), 3);
        Due.is("rest", x.rest(), 0);
        Due.is("count", x.count(4), 0);
        x.minutes(3);
        Due.is("it stays", x.now(2), 24);
        x.round(7);
        x.round(8);
        Due.is("not yet", x.now(2), 24);
        x.minutes(1);
        Due.is("the first", x.now(2), 7);
        x.minutes(1);
        Due.is("the second", x.now(2), 8);
        x.round(9);
        x.minutes(1);
        Due.is("the one behind", x.now(2), 9);
        x.minutes(1);
        Due.is("from the first", x.now(2), 7);
    }
}
