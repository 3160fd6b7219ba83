/** Wards from which the edges are looked at. */
final class Settings {
    private Settings() {
    }

    /** Nothing in it is as at first, an image is kept that is other again, and each finding was told before. */
    static SleepWard rich() {
        SleepWard x = new SleepWard();
        x.door(6, 7, false);
        x.door(12, 17, false);
        x.height(3, 8);
        x.height(20, 1);
        x.mark(4, 0, true);
        x.mark(13, 0, true);
        x.mark(24, 1, true);
        x.moon(2);
        x.walker(0, 6, 1);
        x.walker(1, 8, 2);
        x.walker(2, 18, 3);
        x.walker(3, 12, 0);
        x.walker(4, 11, 3);
        x.walker(5, 2, 1);
        x.round(5);
        x.round(9);
        x.round(22);
        x.minutes(1);
        x.image();
        x.minutes(3);
        x.wake(2, true);
        x.set(1, 2, 24);
        x.set(0, 1, 7);
        x.seed(-77);
        x.moon(3);
        x.height(0, 9);
        x.door(0, 1, false);
        tellFindings(x);
        x.sheet(0, 8, 3);
        x.write(0, 0, 11);
        x.write(0, 2, -12);
        x.sheet(1, 16, 40);
        x.write(1, 39, 999);
        x.sheet(2, 64, 1);
        x.write(2, 0, Long.MIN_VALUE);
        Due.feed(x, "moon 4;lamp 1");
        return x;
    }

    private static void tellFindings(SleepWard x) {
        x.moon(9);
        x.moon(9);
        x.as(0, 1);
        x.odds(0, 0, 0);
        x.lays(3);
        x.sheet(0, 8, -1);
    }

    /** All is full that can be filled: walkers, rounds, the tape, the sheets, lamps, the river, shut doors. */
    static SleepWard full() {
        SleepWard x = new SleepWard();
        for (int i = 0; i < 8; i++) {
            x.walker(i % 6, 3 * i, i % 4);
        }
        for (int i = 0; i < 12; i++) {
            x.round(2 * i + 1);
        }
        for (int square = 0; square < 25; square++) {
            x.mark(square, 0, true);
            x.mark(square, 1, true);
            if (square % 5 < 4) {
                x.door(square, square + 1, false);
            }
            if (square < 20) {
                x.door(square, square + 5, false);
            }
        }
        x.image();
        for (int s = 0; s < 4; s++) {
            x.sheet(s, s == 0 ? 8 : s == 1 ? 16 : 64, 40);
            x.write(s, 39, 7 + s);
        }
        Due.feed(x, "moon 2" + " ".repeat(114));
        return x;
    }

    /** The rich ward at a minute from 5 on. */
    static SleepWard rich(int minute) {
        return atMinute(rich(), minute);
    }

    /** Minutes go until it is one that isn't past. */
    static SleepWard atMinute(SleepWard x, int minute) {
        for (int i = 0; i < 20 && x.now(0) < minute; i++) {
            x.minutes(Math.min(500, minute - x.now(0)));
        }
        Due.is("minute", x.now(0), minute);
        return x;
    }

    /** The nearest and the farthest numbers on either side of what is taken. */
    static int[] outside(int least, int most) {
        return new int[] {least - 1, most + 1, Integer.MIN_VALUE, Integer.MAX_VALUE};
    }
}
