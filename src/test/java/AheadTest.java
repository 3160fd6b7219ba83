/** Promises 21 to 31: what goes on. */
public final class AheadTest {
    public static void main(String[] args) {
        promise21();
        promise22();
        promise23();
        promise24();
        promise25();
        promise26();
        promise26size();
        promise27();
        promise28();
        promise29();
        promise30();
        promise31();
        theLastMinute();
        nothingChanges();
        Due.end();
    }

    /** An object whose minute is one (above 0). */
    private static SleepWard atMinute(SleepWard x, int minute) {
        for (int left = minute; left > 0; left -= 500) {
            x.minutes(Math.min(500, left));
        }
        Due.is("minute", x.now(0), minute);
        return x;
    }

    private static void promise21() {
        SleepWard x = Due.told("walker at 6 way 1;rounds 24 24 24 24 24 24 13");
        Due.places(x, 0, 6, 7, 8, 9, 14, 19, 24, 24);
        Due.is("on", x.on(0, 500), 24);
        Due.is("n", x.on(0, -1), Due.BEYOND);
        Due.is("n", x.on(0, 501), Due.BEYOND);
        Due.is("walker", x.on(1, 1), Due.BEYOND);
        Due.is("walker", x.on(-1, 1), Due.BEYOND);
        atMinute(x, 9500);
        Due.is("to 9999", x.on(0, 499), 24);
        Due.is("beyond", x.on(0, 500), Due.STATE);
        Due.is("beyond first", x.on(0, 501), Due.BEYOND);
        x.minutes(499);
        Due.is("now", x.on(0, 0), 24);
        Due.is("no more", x.on(0, 1), Due.STATE);
    }

    private static void promise22() {
        SleepWard x = Due.told("walker at 6 way 1;walker at 24;walker at 20;river 24;river 9;shut 20 15;shut 20 21");
        Due.is("river", x.river(0), 3);
        Due.is("in it now", x.river(1), 0);
        Due.is("never", x.river(2), Due.NONE);
        x.wake(0, true);
        Due.is("awake: never", x.river(0), Due.NONE);
        Due.is("walker", x.river(3), Due.BEYOND);
        Due.is("walker", x.river(-1), Due.BEYOND);
        atMinute(x, 9499);
        Due.is("at 9499", x.river(1), 0);
        Due.is("never", x.river(0), Due.NONE);
        x.minutes(1);
        Due.is("late", x.river(1), Due.STATE);
        Due.is("beyond first", x.river(3), Due.BEYOND);

        // a mooner walks in minute 60 no more
        SleepWard y = Due.told("mooner at 6 way 1;moon 1;river 9");
        Due.is("in time", y.river(0), 3);
        y.minutes(1);
        y.wake(0, true);
        y.minutes(57);
        y.wake(0, false);
        Due.is("minute", y.now(0), 58);
        Due.is("place", y.of(0, 2), 7);
        Due.is("in the last minute", y.river(0), 2);
        y.wake(0, true);
        y.minutes(1);
        y.wake(0, false);
        Due.is("too late", y.river(0), Due.NONE);
    }

    private static void promise23() {
        SleepWard x = Due.told("walker at 5 way 1;walker at 9 way 3;walker at 10;walker at 5;walker at 20");
        Due.is("meet", x.meet(0, 1), 2);
        Due.is("meet", x.meet(1, 0), 2);
        Due.is("now", x.meet(0, 3), 0);
        Due.is("the same", x.meet(2, 2), Due.BEYOND);
        Due.is("walker", x.meet(0, 5), Due.BEYOND);
        Due.is("walker", x.meet(5, 0), Due.BEYOND);
        Due.is("walker", x.meet(-1, 0), Due.BEYOND);
        Due.is("walker", x.meet(0, -1), Due.BEYOND);
        x.wake(4, true);
        x.wake(0, true);
        Due.is("never", x.meet(0, 4), Due.NONE);
        // one that goes by doesn't meet: both change squares at once
        SleepWard y = Due.told("walker at 5 way 1;walker at 6 way 3;shut 5 10;shut 5 0");
        Due.is("on", y.on(0, 1), 6);
        Due.is("on", y.on(1, 1), 5);
        atMinute(x, 9499);
        Due.is("at 9499", x.meet(0, 4), Due.NONE);
        x.minutes(1);
        Due.is("late", x.meet(0, 3), Due.STATE);
        Due.is("beyond first", x.meet(3, 3), Due.BEYOND);
    }

    private static void promise24() {
        SleepWard x = Due.told("walker at 6 way 1;homer at 24;shut 7 8;shut 12 13;shut 11 16;shut 12 17;shut 6 5;shut 11 10;shut 6 1;shut 7 2");
        Due.places(x, 0, 6, 7, 12, 11, 6, 7);
        Due.is("home", x.home(0), 4);
        x.minutes(1);
        Due.is("home", x.home(0), 3);
        x.minutes(3);
        Due.is("not now, but next", x.home(0), 4);
        x.wake(0, true);
        Due.is("awake at home", x.home(0), 1);
        x.set(0, 2, 7);
        Due.is("awake away", x.home(0), Due.NONE);
        x.set(1, 2, 24);
        x.wake(1, false);
        Due.is("a homer stays", x.home(1), 1);
        Due.is("walker", x.home(2), Due.BEYOND);
        Due.is("walker", x.home(-1), Due.BEYOND);
        Due.is("minute", x.now(0), 4);
        x.minutes(495);
        for (int i = 0; i < 18; i++) {
            x.minutes(500);
        }
        Due.is("minute", x.now(0), 9499);
        Due.is("at 9499", x.home(1), 1);
        x.minutes(1);
        Due.is("late", x.home(1), Due.STATE);
        Due.is("beyond first", x.home(2), Due.BEYOND);
    }

    private static void promise25() {
        SleepWard x = Due.told("walker at 6 way 1;walker at 20 way 1;river 9;river 20");
        Due.is("safe", x.safe(1), 1);
        Due.is("safe", x.safe(2), 1);
        Due.is("not safe", x.safe(3), 0);
        Due.is("not safe", x.safe(500), 0);
        x.wake(0, true);
        Due.is("one awake, one in it: safe", x.safe(500), 1);
        Due.is("n", x.safe(0), Due.BEYOND);
        Due.is("n", x.safe(501), Due.BEYOND);
        atMinute(x, 9500);
        Due.is("to 9999", x.safe(499), 1);
        Due.is("late", x.safe(500), Due.STATE);
        Due.is("beyond first", x.safe(501), Due.BEYOND);
    }

    private static void promise26() {
        SleepWard x = Due.told("walker at 6 way 1;river 8");
        // doors of 8 in their order: 3-8, 7-8, 8-9, 8-13
        Due.is("safe as it is", x.barred(1, 0), 0);
        Due.is("safe as it is", x.barred(1, 1), 0);
        Due.is("one", x.barred(2, 0), 1);
        Due.is("the second", x.barred(2, 1), 2);
        // barred at 7 it goes round by 12, 17, 22, 21, 20, 15, 10, 5, 0, 1, 2, 3, 4, 9 ..: never by 8
        Due.is("one", x.barred(120, 0), 1);
        Due.is("the second", x.barred(120, 1), 2);
        x.walker(0, 23, 0);
        Due.is("two", x.barred(2, 0), 1);
        Due.is("two", x.barred(3, 0), 2);
        Due.is("the second and the fourth", x.barred(3, 1), 2 + 8);
        x.door(8, 9, false);
        // 8-9 is shut already, and no longer one of them
        Due.is("two", x.barred(3, 0), 2);
        Due.is("the second and the third", x.barred(3, 1), 2 + 4);
        x.door(8, 7, false);
        Due.is("one", x.barred(3, 0), 1);
        Due.is("the second", x.barred(3, 1), 2);
        Due.is("doors stay", x.count(1), 2);
        Due.is("n", x.barred(0, 0), Due.BEYOND);
        Due.is("n", x.barred(121, 0), Due.BEYOND);
        Due.is("what", x.barred(1, 2), Due.BEYOND);
        Due.is("what", x.barred(1, -1), Due.BEYOND);

        // the first door of all, and all doors that there are
        SleepWard y = Due.told("walker at 1 way 3;river 0");
        Due.is("the first", y.barred(1, 1), 1);
        y.door(0, 5, false);
        Due.is("all", y.barred(1, 0), 1);
        Due.is("all", y.barred(120, 1), 1);
        // each of the two needs its own
        SleepWard v = Due.told("sloper at 5;sloper at 1;height 0 0;river 0");
        Due.is("two", v.barred(120, 0), 2);
        Due.is("both", v.barred(120, 1), 3);

        // both {1, 2} and {0, 3} would do: 6 is less than 9
        SleepWard w = Due.told("wanderer at 4;wanderer at 13;river 7");
        w.seed(622);
        Due.is("two", w.barred(12, 0), 2);
        Due.is("the least", w.barred(12, 1), 6);
        w.door(2, 7, false);
        w.door(7, 12, false);
        Due.is("others do, too", w.safe(12), 1);

        // nobody can be barred that is in it already
        SleepWard z = Due.told("walker at 8;river 8");
        Due.is("in it now", z.barred(120, 1), 0);

        atMinute(x, 9880);
        Due.is("late", x.barred(120, 0), Due.STATE);
        Due.is("beyond first", x.barred(121, 0), Due.BEYOND);
        Due.is("to 9999", x.barred(119, 0), x.barred(119, 1) == 0 ? 0 : 1);
    }

    private static void promise26size() {
        SleepWard x = Due.told("river 6;river 8;river 16");
        // each of them has four doors
        Due.is("twelve", x.barred(5, 0), 0);
        x.mark(24, 1, true);
        Due.is("fourteen", x.barred(5, 0), Due.SIZE);
        x.door(24, 23, false);
        Due.is("thirteen", x.barred(5, 1), Due.SIZE);
        x.door(24, 19, false);
        Due.is("twelve", x.barred(5, 1), 0);
        x.mark(7, 1, true);
        // 7 joins 6 and 8: its two doors to them are no banks now, but those to 2 and 12 are
        Due.is("twelve", x.barred(5, 1), 0);
        x.mark(12, 1, true);
        Due.is("fourteen", x.barred(5, 1), Due.SIZE);
        for (int i = 0; i < 19; i++) {
            x.minutes(500);
        }
        x.minutes(495);
        Due.is("state first", x.barred(5, 1), Due.STATE);
    }

    private static void promise27() {
        SleepWard x = Due.told("lamper at 12;lamper at 12");
        // a lamp at 11 draws both west; one at 7, where they go anyway, changes nothing in one minute
        Due.is("least of 11, 13, 17", x.lamp(1), 11);
        x.mark(11, 0, true);
        Due.is("7 is ahead", x.lamp(1), 7);
        Due.is("lamps stay", x.count(2), 1);
        Due.is("square 0", Due.told("lamper at 5 way 2").lamp(1), 0);
        SleepWard y = Due.told("walker at 12;sloper at 3;wanderer at 9");
        Due.is("nobody sees lamps", y.lamp(120), Due.NONE);
        SleepWard z = Due.told("lamper at 12;lamper at 18 way 2;lamper at 18 way 2");
        Due.is("most of them", z.lamp(1), 13);
        z.wake(1, true);
        z.wake(2, true);
        Due.is("one alone", z.lamp(1), 11);
        SleepWard v = Due.told("lamper at 12");
        for (int square = 0; square < 25; square++) {
            v.mark(square, 0, true);
        }
        Due.is("lamps everywhere", v.lamp(5), Due.NONE);
        Due.is("n", x.lamp(0), Due.BEYOND);
        Due.is("n", x.lamp(121), Due.BEYOND);
        atMinute(x, 9990);
        Due.is("late", x.lamp(10), Due.STATE);
        Due.is("beyond first", x.lamp(121), Due.BEYOND);
    }

    private static void promise28() {
        SleepWard x = Due.told("walker at 6 way 1;walker at 16 way 1;walker at 18 way 3;rounds 7 7");
        Due.is("two at 17", x.watch(1), 17);
        Due.is("awake stay", x.now(3), 0);
        Due.is("rounds stay", x.count(4), 2);
        Due.is("the watcher stays", x.now(2), 0);
        SleepWard y = Due.told("walker at 6 way 1");
        Due.is("one at 7", y.watch(1), 7);
        Due.is("the least of 7, 8", y.watch(2), 7);
        y.mark(7, 1, true);
        Due.is("none in the river", y.watch(2), 0);
        y.mark(7, 1, false);
        y.wake(0, true);
        Due.is("awake already", y.watch(120), 0);
        // who stays where the watcher stands is met too
        SleepWard z = Due.told("mooner at 12;mooner at 3");
        Due.is("the least", z.watch(1), 3);
        Due.is("n", x.watch(0), Due.BEYOND);
        Due.is("n", x.watch(121), Due.BEYOND);
        atMinute(x, 9880);
        Due.is("late", x.watch(120), Due.STATE);
        Due.is("beyond first", x.watch(121), Due.BEYOND);
    }

    private static void promise29() {
        SleepWard x = Due.told("walker at 0 way 0;sloper at 0 way 0");
        Due.is("round the ward", x.loop(0), 16);
        Due.is("a sloper", x.loop(1), Due.STATE);
        x.turn(1, 0);
        Due.is("a walker now", x.loop(1), 16);
        // the watcher at 0 doesn't wake it here
        x.round(1);
        Due.is("nobody wakes it", x.loop(0), 16);
        x.set(0, 3, 1);
        Due.is("its place, but not with its way", x.loop(0), Due.NONE);
        x.set(0, 3, 0);
        x.mark(14, 1, true);
        Due.is("the river holds it", x.loop(0), Due.NONE);
        x.mark(14, 1, false);
        x.mark(0, 1, true);
        Due.is("in the river", x.loop(0), Due.STATE);
        x.mark(0, 1, false);
        x.wake(0, true);
        Due.is("awake", x.loop(0), Due.STATE);
        Due.is("walker", x.loop(2), Due.BEYOND);
        Due.is("walker", x.loop(-1), Due.BEYOND);
        SleepWard y = Due.told("walker at 0 way 3;shut 0 1;shut 0 5");
        Due.is("shut in", y.loop(0), 1);
        SleepWard z = Due.told("walker at 0 way 3;shut 0 5;shut 1 2;shut 1 6");
        Due.is("there and back", z.loop(0), 2);
        z.set(0, 3, 2);
        Due.is("its way never again", z.loop(0), Due.NONE);
        z.minutes(2);
        Due.is("awake at 0", z.of(0, 4), 1);
        z.wake(0, false);
        Due.is("there and back", z.loop(0), 2);
        atMinute(y, 9500);
        y.minutes(499);
        y.wake(0, false);
        Due.is("at any minute", y.loop(0), 1);
    }

    private static void promise30() {
        SleepWard x = Due.told("wanderer at 12;walker at 12;wanderer at 0");
        Due.is("now", x.odds(0, 12, 0), 1);
        Due.is("now", x.odds(0, 7, 0), 0);
        for (int square : new int[] {7, 11, 13, 17}) {
            Due.is("a fourth", x.odds(0, square, 1), 3);
        }
        Due.is("gone", x.odds(0, 12, 1), 0);
        Due.is("back", x.odds(0, 12, 2), 36);
        Due.is("a half", x.odds(2, 1, 1), 6);
        Due.is("a half", x.odds(2, 5, 1), 6);
        // from 0 by 1 (three ways) or by 5 (three ways)
        Due.is("a third", x.odds(2, 0, 2), 48);
        Due.is("a third", x.odds(2, 6, 2), 48);
        Due.is("a sixth", x.odds(2, 2, 2), 24);
        x.door(12, 17, false);
        Due.is("of three", x.odds(0, 7, 1), 4);
        Due.is("shut", x.odds(0, 17, 1), 0);
        x.door(12, 11, false);
        x.door(12, 13, false);
        Due.is("of one", x.odds(0, 7, 1), 12);
        x.mark(7, 1, true);
        Due.is("the river holds it", x.odds(0, 7, 15), 15407021574586368L);
        x.mark(12, 1, true);
        Due.is("the river holds it", x.odds(0, 12, 15), 15407021574586368L);
        x.mark(12, 1, false);
        x.door(12, 7, false);
        Due.is("shut in", x.odds(0, 12, 4), 20736);
        Due.is("z stays", x.count(6), 1);
        long all = 0;
        for (int square = 0; square < 25; square++) {
            all += x.odds(2, square, 15);
        }
        Due.is("all parts", all, 15407021574586368L);
        Due.is("walker", x.odds(3, 0, 1), Due.BEYOND);
        Due.is("walker", x.odds(-1, 0, 1), Due.BEYOND);
        Due.is("square", x.odds(0, 25, 1), Due.BEYOND);
        Due.is("square", x.odds(0, -1, 1), Due.BEYOND);
        Due.is("n", x.odds(0, 0, 16), Due.BEYOND);
        Due.is("n", x.odds(0, 0, -1), Due.BEYOND);
        Due.is("kind", x.odds(1, 0, 1), Due.STATE);
        Due.is("beyond first", x.odds(1, 25, 1), Due.BEYOND);
        atMinute(x, 9999);
        Due.is("at any minute", x.odds(0, 12, 4), 20736);
    }

    private static void promise31() {
        SleepWard x = Due.told("wanderer at 12;walker at 12;wanderer at 0");
        Due.is("now", x.likeliest(0, 0), 12);
        Due.is("the least of four", x.likeliest(0, 1), 7);
        Due.is("back", x.likeliest(0, 2), 12);
        Due.is("the least of two", x.likeliest(2, 1), 1);
        Due.is("the least of two", x.likeliest(2, 2), 0);
        x.mark(23, 1, true);
        x.set(0, 2, 23);
        Due.is("the river holds it", x.likeliest(0, 15), 23);
        Due.is("walker", x.likeliest(3, 1), Due.BEYOND);
        Due.is("walker", x.likeliest(-1, 1), Due.BEYOND);
        Due.is("n", x.likeliest(0, 16), Due.BEYOND);
        Due.is("n", x.likeliest(0, -1), Due.BEYOND);
        Due.is("kind", x.likeliest(1, 1), Due.STATE);
        Due.is("beyond first", x.likeliest(1, 16), Due.BEYOND);
    }

    /** With these seeds it comes to 24 first in 500 minutes, and in 501. */
    private static void theLastMinute() {
        SleepWard x = Due.told("shut 3 4;shut 4 9;rounds 4;wanderer at 24;walker at 24");
        x.wake(1, true);
        int[] places = {12, 13};
        int[] seeds = {14512, 107830};
        for (int i = 0; i < 2; i++) {
            int want = i == 0 ? 500 : Due.NONE;
            x.set(0, 2, places[i]);
            x.seed(seeds[i]);
            Due.is("meet", x.meet(0, 1), want);
            Due.is("home", x.home(0), want);
            x.mark(24, 1, true);
            Due.is("river", x.river(0), want);
            Due.is("safe", x.safe(500), i);
            Due.is("safe", x.safe(499), 1);
            x.mark(24, 1, false);
        }
    }

    private static void nothingChanges() {
        SleepWard x = Due.told("wanderer at 12;wanderer at 7;lamper at 3 way 2;river 20;rounds 4 9 4;moon 2");
        x.sheet(0, 8, 40);
        x.on(0, 500);
        x.river(0);
        x.meet(0, 1);
        x.home(1);
        x.safe(500);
        x.barred(120, 0);
        x.lamp(120);
        x.watch(120);
        x.loop(0);
        x.odds(0, 0, 15);
        x.likeliest(0, 15);
        x.track(0, 0);
        x.whose(0);
        Due.is("z", x.count(6), 1);
        Due.is("minute", x.now(0), 0);
        Due.is("watcher", x.now(2), 0);
        Due.is("awake", x.now(3), 0);
        Due.is("home", x.now(5), 3);
        Due.is("shut", x.count(1), 0);
        Due.is("lamps", x.count(2), 0);
        Due.is("way", x.of(2, 3), 2);
        x.minutes(1);
        Due.is("the first round", x.now(2), 4);
    }
}
