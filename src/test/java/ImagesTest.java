/** Promises 41 to 45: images. */
public final class ImagesTest {
    public static void main(String[] args) {
        promise41and42();
        promise43();
        promise44();
        promise45();
        Due.end();
    }

    private static void promise41and42() {
        SleepWard x = Due.told("shut 6 7;height 3 8;lamp 4;river 24;moon 2;wanderer at 11 way 3;mooner at 2;rounds 5 6 7");
        x.minutes(1);
        x.seed(77);
        x.wake(1, true);
        x.sheet(0, 8, 2);
        Due.feed(x, "moon");
        Due.is("image", x.image(), 1);
        int place = x.of(0, 2);
        int way = x.of(0, 3);
        x.door(6, 7, true);
        x.door(0, 1, false);
        x.height(3, 1);
        x.mark(4, 0, false);
        x.mark(24, 1, false);
        x.moon(4);
        x.wake(0, false);
        x.turn(0, 0);
        x.set(0, 1, 0);
        x.set(0, 2, 0);
        x.set(0, 3, 2 - way % 2);
        x.wake(1, false);
        x.walker(0, 0, 0);
        x.rest();
        x.round(20);
        x.minutes(7);
        x.seed(5);
        x.sheet(0, 16, 3);
        Due.feed(x, " 1");
        for (int again = 0; again < 2; again++) {
            Due.is("undo", x.undo(), 2);
            Due.is("door", x.isOpen(6, 7), 0);
            Due.is("doors", x.count(1), 1);
            Due.is("height", x.squareOf(3, 0), 8);
            Due.is("lamp", x.squareOf(4, 1), 1);
            Due.is("river", x.squareOf(24, 2), 1);
            Due.is("moon", x.now(1), 2);
            Due.is("minute", x.now(0), 1);
            Due.is("watcher", x.now(2), 5);
            Due.is("z", x.count(6), 77);
            Due.is("walkers", x.count(0), 2);
            Due.is("kind", x.of(0, 0), 4);
            Due.is("home", x.of(0, 1), 11);
            Due.is("place", x.of(0, 2), place);
            Due.is("way", x.of(0, 3), way);
            Due.is("awake", x.of(0, 4), 0);
            Due.is("awake", x.of(1, 4), 1);
            Due.is("rounds", x.count(4), 3);
            x.minutes(1);
            Due.is("rounds go on", x.now(2), 6);
            x.rest();
            x.height(3, 0);
            x.bed();
            Due.is("the tape isn't kept", x.count(5), 6);
            Due.is("sheets aren't kept", x.write(0, 2, 0), 0);
        }
        x.undo();
        x.moon(3);
        Due.is("image", x.image(), 1);
        x.moon(0);
        Due.is("undo", x.undo(), 2);
        Due.is("the latest", x.now(1), 3);
        x.moon(1);
        Due.is("undo", x.undo(), 2);
        Due.is("it stays", x.now(1), 3);
        Due.is("no findings", x.status(-1), 0);
    }

    private static void promise43() {
        SleepWard x = new SleepWard();
        Due.is("nothing", x.tear(), 0);
        Due.is("nothing", x.undo(), Due.NONE);
        x.image();
        x.moon(1);
        x.image();
        Due.is("something", x.tear(), 1);
        Due.is("nothing", x.tear(), 0);
        x.moon(2);
        Due.is("nothing", x.undo(), Due.NONE);
        Due.is("as it was", x.now(1), 2);
        x.image();
        Due.is("undo", x.undo(), 0);
    }

    private static void promise44() {
        SleepWard x = Due.told("shut 0 1;lamp 1;lamp 2;river 1;river 2;river 3;rounds 1 2 3 4;walker at 4;walker at 5");
        Due.feed(x, "moon;");
        x.seed(-8);
        int[] want = {2, 1, 2, 3, 4, 5, -8};
        for (int what = 0; what < 7; what++) {
            Due.is("count " + what, x.count(what), want[what]);
        }
        Due.is("what", x.count(7), Due.BEYOND);
        Due.is("what", x.count(-1), Due.BEYOND);
    }

    private static void promise45() {
        SleepWard x = new SleepWard();
        x.walker(0, 12, 0);
        Due.is("full", x.image(), 1);
        x.moon(9);
        x.moon(9);
        for (int i = 0; i < 13; i++) {
            x.round(1);
        }
        x.as(0, 1);
        x.tear();
        x.undo();
        x.odds(0, 0, 0);
        x.lays(0);
        x.lays(0);
        x.lays(0);
        x.sheet(0, 8, -1);
        int[] want = {2, 1, 1, 1, 1, 3, 1};
        for (int which = 0; which < 7; which++) {
            Due.is("status " + which, x.status(which), want[which]);
        }
        Due.is("all", x.status(-1), 10);
        Due.is("another", x.status(7), Due.BEYOND);
        Due.is("counted", x.status(0), 3);
        Due.is("another", x.status(-2), Due.BEYOND);
        Due.is("counted", x.status(0), 4);
        Due.is("all", x.status(-1), 12);
        x.image();
        x.moon(-1);
        x.undo();
        Due.is("undo takes none back", x.status(0), 5);
        // an answer that looks like a finding is none
        x.seed(Due.SIZE);
        x.seed(1);
        x.sheet(1, 64, 1);
        x.write(1, 0, Due.SIZE);
        x.write(1, 0, 0);
        Due.is("no findings", x.status(6), 1);
        Due.is("all", x.status(-1), 13);
        // a fault of the text is none
        Due.ward(x, "x", -1);
        Due.is("all", x.status(-1), 13);
    }
}
