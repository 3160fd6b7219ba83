/** Promises 10 to 16: walkers. */
public final class WalkersTest {
    public static void main(String[] args) {
        promise10();
        promise11();
        promise12();
        promise13();
        promise14();
        promise15();
        walkersStep();
        slopersStep();
        lampersStep();
        homersStep();
        wanderersStep();
        moonersStep();
        Due.end();
    }

    private static void promise10() {
        SleepWard x = new SleepWard();
        Due.is("kind", x.walker(-1, 0, 0), Due.BEYOND);
        Due.is("kind", x.walker(6, 0, 0), Due.BEYOND);
        Due.is("square", x.walker(0, -1, 0), Due.BEYOND);
        Due.is("square", x.walker(0, 25, 0), Due.BEYOND);
        Due.is("way", x.walker(0, 0, -1), Due.BEYOND);
        Due.is("way", x.walker(0, 0, 4), Due.BEYOND);
        Due.is("none yet", x.count(0), 0);
        for (int i = 0; i < 8; i++) {
            Due.is("walker", x.walker(i % 6, 3 * i, i % 4), i);
        }
        Due.is("full", x.walker(0, 0, 0), Due.FULL);
        Due.is("beyond first", x.walker(0, 0, 4), Due.BEYOND);
        for (int i = 0; i < 8; i++) {
            Due.is("kind", x.of(i, 0), i % 6);
            Due.is("home", x.of(i, 1), 3 * i);
            Due.is("place", x.of(i, 2), 3 * i);
            Due.is("way", x.of(i, 3), i % 4);
            Due.is("awake", x.of(i, 4), 0);
        }
        Due.is("count", x.count(0), 8);
    }

    private static void promise11() {
        SleepWard x = new SleepWard();
        Due.is("nobody", x.of(0, 0), Due.BEYOND);
        x.walker(5, 0, 3);
        Due.is("corner", x.of(0, 5), 2 + 4);
        x.set(0, 2, 24);
        Due.is("corner", x.of(0, 5), 1 + 8);
        Due.is("home", x.of(0, 1), 0);
        Due.is("place", x.of(0, 2), 24);
        x.set(0, 2, 4);
        Due.is("corner", x.of(0, 5), 4 + 8);
        x.set(0, 2, 20);
        Due.is("corner", x.of(0, 5), 1 + 2);
        x.set(0, 2, 12);
        Due.is("midst", x.of(0, 5), 15);
        x.door(12, 17, false);
        Due.is("midst", x.of(0, 5), 11);
        x.door(12, 7, false);
        Due.is("midst", x.of(0, 5), 10);
        x.door(12, 11, false);
        Due.is("midst", x.of(0, 5), 2);
        x.wake(0, true);
        Due.is("awake", x.of(0, 4), 1);
        Due.is("what", x.of(0, 6), Due.BEYOND);
        Due.is("what", x.of(0, -1), Due.BEYOND);
        Due.is("walker", x.of(1, 0), Due.BEYOND);
        Due.is("walker", x.of(-1, 0), Due.BEYOND);
    }

    private static void promise12() {
        SleepWard x = new SleepWard();
        Due.is("nobody", x.set(0, 1, 0), Due.BEYOND);
        x.walker(0, 7, 2);
        Due.is("home", x.set(0, 1, 24), 7);
        Due.is("home", x.set(0, 1, 3), 24);
        Due.is("place", x.set(0, 2, 24), 7);
        Due.is("place", x.set(0, 2, 4), 24);
        Due.is("way", x.set(0, 3, 3), 2);
        Due.is("way", x.set(0, 3, 0), 3);
        Due.is("what", x.set(0, 0, 1), Due.BEYOND);
        Due.is("what", x.set(0, 4, 1), Due.BEYOND);
        Due.is("home", x.set(0, 1, 25), Due.BEYOND);
        Due.is("home", x.set(0, 1, -1), Due.BEYOND);
        Due.is("place", x.set(0, 2, 25), Due.BEYOND);
        Due.is("place", x.set(0, 2, -1), Due.BEYOND);
        Due.is("way", x.set(0, 3, 4), Due.BEYOND);
        Due.is("way", x.set(0, 3, -1), Due.BEYOND);
        Due.is("walker", x.set(1, 3, 0), Due.BEYOND);
        Due.is("walker", x.set(-1, 3, 0), Due.BEYOND);
        Due.is("home", x.of(0, 1), 3);
        Due.is("place", x.of(0, 2), 4);
        Due.is("way", x.of(0, 3), 0);
    }

    private static void promise13() {
        SleepWard x = new SleepWard();
        Due.is("nobody", x.wake(0, true), Due.BEYOND);
        x.walker(0, 12, 0);
        x.walker(0, 12, 0);
        Due.is("sleeps", x.wake(1, false), 0);
        Due.is("woken", x.wake(1, true), 1);
        Due.is("woken", x.wake(1, true), 0);
        x.minutes(1);
        Due.is("walks", x.of(0, 2), 7);
        Due.is("stands", x.of(1, 2), 12);
        Due.is("sleeps again", x.wake(1, false), 1);
        Due.is("sleeps again", x.wake(1, false), 0);
        x.minutes(1);
        Due.is("walks", x.of(1, 2), 7);
        Due.is("walker", x.wake(2, true), Due.BEYOND);
        Due.is("walker", x.wake(-1, true), Due.BEYOND);
    }

    private static void promise14() {
        SleepWard x = new SleepWard();
        Due.is("nobody", x.turn(0, 0), Due.BEYOND);
        x.walker(2, 12, 1);
        Due.is("turn", x.turn(0, 2), 2);
        Due.is("turn", x.turn(0, 5), 2);
        Due.is("step", x.step(0), -1);
        Due.is("turn", x.turn(0, 0), 5);
        Due.is("step", x.step(0), 1);
        Due.is("kind", x.turn(0, 6), Due.BEYOND);
        Due.is("kind", x.turn(0, -1), Due.BEYOND);
        Due.is("walker", x.turn(1, 1), Due.BEYOND);
        Due.is("walker", x.turn(-1, 1), Due.BEYOND);
        Due.is("kept", x.of(0, 0), 0);
    }

    private static void promise15() {
        // for each kind the kinds that it is of
        int[] under = {1, 1 + 2, 1 + 4, 1 + 2 + 8, 1 + 16, 1 + 4 + 32};
        SleepWard x = new SleepWard();
        Due.is("nobody", x.as(0, 0), Due.BEYOND);
        for (int kind = 0; kind < 6; kind++) {
            x.walker(kind, 10 + kind, 0);
            for (int as = 0; as < 6; as++) {
                boolean is = (under[kind] >> as & 1) == 1;
                Due.is("as(" + kind + ", " + as + ")", x.as(kind, as), is ? 10 + kind : Due.KIND);
            }
            Due.is("kind", x.as(kind, -1), Due.BEYOND);
            Due.is("kind", x.as(kind, 6), Due.BEYOND);
        }
        x.set(3, 2, 2);
        Due.is("place, not home", x.as(3, 1), 2);
        Due.is("walker", x.as(6, 0), Due.BEYOND);
        Due.is("walker", x.as(-1, 0), Due.BEYOND);
    }

    private static void walkersStep() {
        SleepWard x = new SleepWard();
        Due.is("nobody", x.step(0), Due.BEYOND);
        x.walker(0, 0, 0);
        Due.is("edge", x.step(0), 1);
        x.set(0, 3, 3);
        Due.is("edge", x.step(0), 1);
        x.set(0, 3, 2);
        Due.is("ahead", x.step(0), 2);
        x.set(0, 2, 12);
        Due.is("ahead", x.step(0), 2);
        x.door(12, 17, false);
        Due.is("next", x.step(0), 3);
        x.door(12, 11, false);
        Due.is("next, round", x.step(0), 0);
        x.door(12, 7, false);
        Due.is("last", x.step(0), 1);
        x.door(12, 13, false);
        Due.is("none", x.step(0), -1);
        x.door(12, 11, true);
        x.wake(0, true);
        Due.is("awake too", x.step(0), 3);
        x.mark(12, 1, true);
        Due.is("in the river too", x.step(0), 3);
        Due.is("its way stays", x.of(0, 3), 2);
        Due.is("its place stays", x.of(0, 2), 12);
        Due.is("walker", x.step(1), Due.BEYOND);
        Due.is("walker", x.step(-1), Due.BEYOND);
    }

    private static void slopersStep() {
        SleepWard x = new SleepWard();
        x.walker(1, 12, 2);
        Due.is("flat: as a walker", x.step(0), 2);
        x.height(7, 4);
        Due.is("lower", x.step(0), 0);
        x.height(7, 6);
        Due.is("higher draws not", x.step(0), 2);
        x.height(11, 4);
        Due.is("lower", x.step(0), 3);
        x.height(13, 4);
        Due.is("of several the least way", x.step(0), 1);
        x.height(17, 3);
        Due.is("the least height", x.step(0), 2);
        x.door(12, 17, false);
        Due.is("a door is shut", x.step(0), 1);
        x.height(12, 4);
        Due.is("as high is not less: as a walker", x.step(0), 3);
        x.height(12, 0);
        x.set(0, 3, 0);
        Due.is("in a hollow: as a walker", x.step(0), 0);
    }

    private static void lampersStep() {
        SleepWard x = new SleepWard();
        x.walker(2, 12, 3);
        Due.is("dark: as a walker", x.step(0), 3);
        x.mark(13, 0, true);
        Due.is("lamp", x.step(0), 1);
        x.mark(7, 0, true);
        Due.is("the first from its own on", x.step(0), 0);
        x.set(0, 3, 1);
        Due.is("its own", x.step(0), 1);
        x.set(0, 3, 2);
        Due.is("round", x.step(0), 0);
        x.door(12, 7, false);
        Due.is("a door is shut", x.step(0), 1);
        x.door(12, 13, false);
        Due.is("behind doors: as a walker", x.step(0), 2);
        x.mark(12, 0, true);
        Due.is("the lamp here draws not", x.step(0), 2);
    }

    private static void homersStep() {
        SleepWard x = new SleepWard();
        x.walker(3, 12, 1);
        x.walker(3, 12, 1);
        x.set(1, 2, 11);
        x.height(17, 2);
        x.height(16, 2);
        Due.is("minute 0 at home", x.step(0), 2);
        Due.is("minute 0 away", x.step(1), 2);
        x.wake(0, true);
        x.wake(1, true);
        x.minutes(1);
        Due.is("at home", x.step(0), -1);
        Due.is("away", x.step(1), 2);
        x.height(16, 5);
        Due.is("away: as a walker", x.step(1), 1);
    }

    private static void wanderersStep() {
        SleepWard x = new SleepWard();
        x.walker(4, 12, 3);
        int[] seeds = {0, 1, 9, -1, 77, Integer.MIN_VALUE, Integer.MAX_VALUE, 123456789};
        for (int seed : seeds) {
            x.seed(seed);
            int drawn = seed * 1103515245 + 12345 >>> 8;
            x.set(0, 2, 12);
            Due.is("of four", x.step(0), drawn % 4);
            x.set(0, 2, 10);
            Due.is("of three", x.step(0), drawn % 3);
            x.set(0, 2, 0);
            Due.is("of two", x.step(0), 1 + drawn % 2);
            x.set(0, 2, 24);
            Due.is("of two", x.step(0), drawn % 2 * 3);
            Due.is("z stays", x.count(6), seed);
        }
        x.door(24, 19, false);
        Due.is("of one", x.step(0), 3);
        x.door(24, 23, false);
        Due.is("of none", x.step(0), -1);
        x.seed(5);
        x.minutes(1);
        Due.is("then no draw", x.count(6), 5);
        x.door(24, 23, true);
        x.minutes(1);
        Due.is("a draw", x.count(6), 5 * 1103515245 + 12345);
        Due.is("its step", x.of(0, 2), 23);
    }

    private static void moonersStep() {
        SleepWard x = new SleepWard();
        x.walker(5, 12, 1);
        x.wake(0, true);
        x.mark(11, 0, true);
        Due.is("new moon", x.step(0), -1);
        for (int moon = 1; moon <= 3; moon++) {
            x.moon(moon);
            Due.is("as a walker", x.step(0), 1);
            Due.is("minutes", x.minutes(59), 0);
            Due.is("as a walker yet", x.step(0), 1);
            Due.is("minutes", x.minutes(1), 0);
            Due.is("none", x.step(0), -1);
        }
        x.moon(4);
        Due.is("as a lamper", x.step(0), 3);
        x.minutes(100);
        Due.is("as a lamper", x.step(0), 3);
        x.mark(11, 0, false);
        Due.is("as a lamper in the dark", x.step(0), 1);
    }
}
