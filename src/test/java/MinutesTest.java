/** Promises 17 to 20: minutes. */
public final class MinutesTest {
    public static void main(String[] args) {
        promise17();
        theMinutesOrder();
        theRiverHolds();
        theWatcherWakes();
        promise18();
        promise19();
        promise20();
        Due.end();
    }

    private static void promise17() {
        SleepWard x = new SleepWard();
        Due.is("n", x.minutes(0), Due.BEYOND);
        Due.is("n", x.minutes(-1), Due.BEYOND);
        Due.is("n", x.minutes(501), Due.BEYOND);
        Due.is("n", x.minutes(Integer.MAX_VALUE), Due.BEYOND);
        Due.is("no minute went", x.now(0), 0);
        for (int i = 1; i < 20; i++) {
            Due.is("minutes", x.minutes(500), 0);
            Due.is("minute", x.now(0), 500 * i);
        }
        Due.is("beyond 9999", x.minutes(500), Due.STATE);
        Due.is("beyond first", x.minutes(501), Due.BEYOND);
        Due.is("to 9999", x.minutes(499), 0);
        Due.is("minute", x.now(0), 9999);
        Due.is("no more", x.minutes(1), Due.STATE);
        Due.is("minute", x.now(0), 9999);
    }

    private static void theMinutesOrder() {
        SleepWard x = new SleepWard();
        x.walker(4, 12, 0);
        x.walker(4, 12, 0);
        x.walker(0, 4, 0);
        x.seed(3);
        int first = 3 * 1103515245 + 12345;
        int second = first * 1103515245 + 12345;
        int[] to = {7, 13, 17, 11};
        x.minutes(1);
        Due.is("draws by numbers", x.of(0, 2), to[(first >>> 8) % 4]);
        Due.is("its way", x.of(0, 3), (first >>> 8) % 4);
        Due.is("draws by numbers", x.of(1, 2), to[(second >>> 8) % 4]);
        Due.is("z", x.count(6), second);
        Due.is("the corner turns it", x.of(2, 2), 9);
        Due.is("its way", x.of(2, 3), 2);
        x.minutes(3);
        Due.is("down", x.of(2, 2), 24);
        x.minutes(1);
        Due.is("and on", x.of(2, 2), 23);
        Due.is("its way", x.of(2, 3), 3);
    }

    private static void theRiverHolds() {
        SleepWard x = Due.told("river 2;river 14;walker at 12;walker at 17;walker at 13 way 1;walker at 2;walker at 20 way 1");
        Due.is("in it now", x.now(4), 1);
        Due.is("one came", x.minutes(1), 1);
        Due.is("one more", x.minutes(1), 1);
        Due.is("one more", x.minutes(1), 1);
        Due.is("in it", x.now(4), 4);
        Due.is("places", x.squareOf(2, 3), 1 + 2 + 8);
        Due.is("places", x.squareOf(14, 3), 4);
        x.minutes(50);
        Due.is("it holds them", x.squareOf(2, 3), 1 + 2 + 8);
        x.mark(2, 1, false);
        x.minutes(1);
        Due.is("dry: they go on", x.squareOf(3, 3), 1 + 2 + 8);
        SleepWard y = Due.told("river 2;river 14;walker at 12;walker at 17;walker at 13 way 1;walker at 2;walker at 20 way 1");
        Due.is("all that came", y.minutes(5), 3);
    }

    private static void theWatcherWakes() {
        // the watcher is met behind the step, where it was ahead of its own
        SleepWard x = Due.told("walker at 5;walker at 0 way 1;walker at 6 way 1;rounds 1 2 8");
        x.minutes(1);
        Due.is("met at 0", x.of(0, 4), 1);
        Due.is("gone from 0", x.of(1, 4), 0);
        Due.is("it went to 1", x.of(1, 2), 1);
        Due.is("the watcher too", x.now(2), 1);
        Due.is("at 7", x.of(2, 2), 7);
        x.minutes(1);
        Due.is("one went on to 2", x.of(1, 2), 2);
        Due.is("not met", x.of(1, 4), 0);
        x.minutes(1);
        Due.is("one went on to 3", x.of(1, 2), 3);
        Due.is("not met", x.of(1, 4), 0);
        Due.is("the watcher", x.now(2), 8);
        Due.is("awake stands", x.of(0, 2), 0);
        x.set(1, 3, 2);
        x.minutes(1);
        Due.is("met at 8", x.of(1, 4), 1);
        Due.is("met at 8", x.of(1, 2), 8);
        Due.is("the watcher", x.now(2), 1);

        // in the river nobody is woken
        SleepWard y = Due.told("river 0;walker at 5;walker at 0");
        Due.is("came", y.minutes(1), 1);
        Due.is("asleep", y.now(3), 0);
        y.mark(0, 1, false);
        y.set(0, 3, 2);
        y.set(1, 3, 2);
        y.door(0, 5, false);
        y.door(0, 1, false);
        y.minutes(1);
        Due.is("met where they stay", y.now(3), 2);

        // doors don't hold the watcher, nor need its squares be beside one another
        SleepWard z = Due.told("shut 0 1;shut 0 5;rounds 24 0 12");
        int[] to = {24, 0, 12, 24};
        for (int i = 0; i < 4; i++) {
            z.minutes(1);
            Due.is("round", z.now(2), to[i]);
        }
    }

    private static void promise18() {
        SleepWard x = Due.told("walker at 12;sloper at 5;homer at 24;rounds 3 4;moon 2");
        x.minutes(3);
        x.wake(0, true);
        Due.is("way", x.of(0, 3), 1);
        x.set(2, 2, 24);
        Due.is("bed", x.bed(), 2);
        Due.is("minute", x.now(0), 0);
        Due.is("at home", x.now(5), 3);
        Due.is("awake", x.now(3), 0);
        Due.is("way stays", x.of(0, 3), 1);
        Due.is("the watcher stays", x.now(2), 3);
        x.minutes(1);
        Due.is("and goes on", x.now(2), 4);
        Due.is("moon stays", x.now(1), 2);
        x.set(1, 1, 7);
        Due.is("bed", x.bed(), 3);
        Due.is("home", x.of(1, 2), 7);
        Due.is("bed again", x.bed(), 0);
        Due.is("nobody's bed", new SleepWard().bed(), 0);
    }

    private static void promise19() {
        SleepWard x = new SleepWard();
        Due.is("seed", x.seed(Integer.MIN_VALUE), 1);
        Due.is("seed", x.seed(Due.BEYOND), Integer.MIN_VALUE);
        Due.is("any number", x.count(6), Due.BEYOND);
        Due.is("seed", x.seed(0), Due.BEYOND);
        Due.is("seed", x.seed(7), 0);
        Due.is("no finding", x.status(-1), 0);
    }

    private static void promise20() {
        SleepWard x = Due.told("walker at 12;walker at 13;walker at 14;moon 3;river 7;rounds 9");
        x.minutes(1);
        x.wake(0, true);
        x.wake(1, true);
        Due.is("minute", x.now(0), 1);
        Due.is("moon", x.now(1), 3);
        Due.is("watcher", x.now(2), 9);
        Due.is("awake", x.now(3), 2);
        Due.is("river, awake too", x.now(4), 1);
        Due.is("home", x.now(5), 0);
        x.set(0, 2, 12);
        Due.is("home", x.now(5), 1);
        Due.is("river", x.now(4), 0);
        Due.is("what", x.now(6), Due.BEYOND);
        Due.is("what", x.now(-1), Due.BEYOND);
    }
}
