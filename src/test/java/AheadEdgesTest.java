/** The edges of promises 21 to 25 and of ON and SAFE, a method for each sentence that names one. */
public final class AheadEdgesTest {
    public static void main(String[] args) {
        onIsZeroToFiveHundred();
        onOfNoWalker();
        onEndsWithTheLastMinute();
        onChangesNothing();
        drawsOnAreThereAlone();
        riverOfNoWalker();
        riverIsNowOrNever();
        meetOfNoTwoWalkers();
        meetIsNowOrNever();
        homeOfNoWalker();
        homeIsNextOrNever();
        theFirstFiveHundredAndNoMore();
        lateIsAboveNineThousandFourHundredNinetyNine();
        safeIsOneToFiveHundred();
        safeEndsWithTheLastMinute();
        safeOfNobodyAndOfWhoIsInItNow();
        safeIsWithinSoManyMinutes();
        Due.end();
    }

    /** Promise 21, "0 to 500". */
    private static void onIsZeroToFiveHundred() {
        for (int n : Settings.outside(0, 500)) {
            Twins.refuses("on(0, " + n + ")", Settings::rich, x -> x.on(0, n), Due.BEYOND);
        }
        SleepWard x = new SleepWard();
        x.walker(0, 0, 0);
        x.round(12);
        // sixteen squares round the ward, and the watcher in the midst
        x.minutes(1);
        Due.is("no minute", x.on(0, 0), 1);
        Due.is("one", x.on(0, 1), 2);
        Due.is("all but the last", x.on(0, 499), 4);
        Due.is("the most", x.on(0, 500), 9);
    }

    /** Promise 21, "BEYOND": no such WALKER. */
    private static void onOfNoWalker() {
        Twins.refusesWalkers("on 0", (x, walker) -> x.on(walker, 0));
        Twins.refusesWalkers("on 500", (x, walker) -> x.on(walker, 500));
    }

    /** Promise 21, "BEYOND. STATE: MINUTE would be above 9999": in this order. */
    private static void onEndsWithTheLastMinute() {
        int[][] edges = {{9499, 500}, {9500, 499}, {9998, 1}, {9999, 0}};
        for (int[] edge : edges) {
            SleepWard at = Settings.rich(edge[0]);
            at.minutes(Math.max(1, edge[1]));
            Twins.keeps("on to 9999", () -> Settings.rich(edge[0]), x -> x.on(4, edge[1]), at.of(4, 2));
            int finding = edge[1] < 500 ? Due.STATE : Due.BEYOND;
            Twins.refuses("on to 10000", () -> Settings.rich(edge[0]), x -> x.on(4, edge[1] + 1), finding);
        }
        Twins.refuses("n ahead of late", () -> Settings.rich(9999), x -> x.on(4, -1), Due.BEYOND);
        Twins.refuses("n ahead of late", () -> Settings.rich(9999), x -> x.on(4, 501), Due.BEYOND);
        Twins.refuses("walker ahead of late", () -> Settings.rich(9999), x -> x.on(6, 1), Due.BEYOND);
        Twins.refuses("walker ahead of late", () -> Settings.rich(9999), x -> x.on(-1, 1), Due.BEYOND);
    }

    /** Section 2, "nothing changes". */
    private static void onChangesNothing() {
        SleepWard at = Settings.rich();
        at.minutes(500);
        for (int walker = 0; walker < 6; walker++) {
            int one = walker;
            Twins.keeps("on", Settings::rich, x -> x.on(one, 500), at.of(one, 2));
        }
        Twins.keeps("on in the full ward", Settings::full, x -> x.on(7, 500), 21);
    }

    /** Section 2, "z goes on there alone": the same again, and as it goes then. */
    private static void drawsOnAreThereAlone() {
        SleepWard x = new SleepWard();
        x.walker(4, 12, 0);
        x.walker(4, 12, 0);
        x.round(20);
        x.minutes(1);
        int[] places = new int[11];
        for (int n = 0; n <= 10; n++) {
            places[n] = x.on(1, n);
            Due.is("again", x.on(1, n), places[n]);
        }
        for (int n = 0; n <= 10; n++) {
            Due.is("as it goes", x.of(1, 2), places[n]);
            x.minutes(1);
        }
    }

    /** Promise 22, "BEYOND". */
    private static void riverOfNoWalker() {
        Twins.refusesWalkers("river", (x, walker) -> x.river(walker));
    }

    /** Promise 22, "(0 to 500)", "NONE". */
    private static void riverIsNowOrNever() {
        Twins.keeps("in it now", Settings::rich, x -> x.river(1), 0);
        Twins.keeps("in it now, all", Settings::full, x -> x.river(7), 0);
        Twins.refuses("awake, never", Settings::rich, x -> x.river(2), Due.NONE);
        SleepWard x = new SleepWard();
        x.walker(0, 12, 0);
        Due.is("no river", x.river(0), Due.NONE);
        x.mark(7, 1, true);
        Due.is("in one minute", x.river(0), 1);
        x.wake(0, true);
        Due.is("awake", x.river(0), Due.NONE);
        x.set(0, 2, 7);
        Due.is("awake in it", x.river(0), 0);
    }

    /** Promise 23, "BEYOND (also one and the same)". */
    private static void meetOfNoTwoWalkers() {
        Twins.refusesWalkers("meet, the first", (x, walker) -> x.meet(walker, 0));
        Twins.refusesWalkers("meet, the other", (x, walker) -> x.meet(0, walker));
        for (int walker = 0; walker < 6; walker++) {
            int one = walker;
            Twins.refuses("meet himself", Settings::rich, x -> x.meet(one, one), Due.BEYOND);
        }
    }

    /** Promise 23, "(0 to 500)", "NONE": in the river and awake, too; not if they go by one another. */
    private static void meetIsNowOrNever() {
        SleepWard x = new SleepWard();
        x.walker(0, 12, 0);
        x.walker(0, 12, 0);
        Due.is("now", x.meet(0, 1), 0);
        Due.is("now", x.meet(1, 0), 0);
        x.wake(0, true);
        x.wake(1, true);
        Due.is("now, awake", x.meet(0, 1), 0);
        x.mark(12, 1, true);
        Due.is("now, in the river", x.meet(1, 0), 0);
        x.set(1, 2, 13);
        Due.is("never", x.meet(0, 1), Due.NONE);
        x.wake(1, false);
        x.set(1, 3, 3);
        Due.is("he comes to him", x.meet(0, 1), 1);
        // a ring of four squares in which they go round one behind the other
        SleepWard y = Due.told("walker at 6 way 1;walker at 12 way 3;shut 1 6;shut 5 6;shut 2 7;shut 7 8;shut 12 13");
        Due.ward(y, "shut 12 17;shut 11 16;shut 10 11", 3);
        Due.is("round", y.on(0, 4), 6);
        Due.is("round", y.on(1, 4), 12);
        Due.is("never", y.meet(0, 1), Due.NONE);
        // two squares between which they change
        SleepWard z = Due.told("walker at 23 way 1;walker at 24 way 3;shut 23 22;shut 23 18;shut 24 19");
        Due.is("changed", z.on(0, 1), 24);
        Due.is("changed", z.on(1, 1), 23);
        Due.is("never", z.meet(0, 1), Due.NONE);
        Twins.keeps("in two minutes", () -> Due.told("walker at 5 way 1;walker at 9 way 3"), v -> v.meet(0, 1), 2);
    }

    /** Promise 24, "BEYOND". */
    private static void homeOfNoWalker() {
        Twins.refusesWalkers("home", (x, walker) -> x.home(walker));
    }

    /** Promise 24, "(1 to 500)", "next", "NONE": who is at home now is so again in a minute at the earliest. */
    private static void homeIsNextOrNever() {
        SleepWard x = new SleepWard();
        x.walker(0, 12, 0);
        x.wake(0, true);
        Due.is("awake at home", x.home(0), 1);
        x.set(0, 2, 13);
        Due.is("awake away", x.home(0), Due.NONE);
        x.mark(13, 1, true);
        x.wake(0, false);
        Due.is("in the river away", x.home(0), Due.NONE);
        x.mark(12, 1, true);
        x.set(0, 2, 12);
        Due.is("in the river at home", x.home(0), 1);
        Twins.keeps("at home in the river", Settings::full, y -> y.home(7), 1);
        Twins.refuses("awake away", Settings::rich, y -> y.home(1), Due.NONE);
        // to and fro between two squares: home is every second one
        SleepWard z = Due.told("walker at 24;shut 23 22;shut 23 18;shut 24 19");
        Due.is("not now, but next", z.home(0), 2);
        z.minutes(1);
        Due.is("away", z.home(0), 1);
    }

    /** Promises 22 to 25, "500": with these draws it comes to 24 first in 499, 500 and 501 minutes. */
    private static void theFirstFiveHundredAndNoMore() {
        SleepWard x = Due.told("shut 3 4;shut 4 9;rounds 4;wanderer at 24;walker at 24");
        x.wake(1, true);
        x.set(0, 2, 12);
        x.seed(14512);
        comesIn(x, 500, 500);
        x.minutes(1);
        comesIn(x, 499, 499);
        x.set(0, 2, 13);
        x.seed(107830);
        comesIn(x, Due.NONE, 501);
        x.minutes(1);
        comesIn(x, 500, 500);
    }

    private static void comesIn(SleepWard x, int want, int first) {
        Due.is("meet", x.meet(0, 1), want);
        Due.is("home", x.home(0), want);
        Due.is("on", x.on(0, Math.min(500, first)) == 24 ? 1 : 0, first <= 500 ? 1 : 0);
        x.mark(24, 1, true);
        Due.is("river", x.river(0), want);
        Due.is("safe by 500", x.safe(500), first <= 500 ? 0 : 1);
        Due.is("safe by one less", x.safe(Math.min(500, first - 1)), 1);
        x.mark(24, 1, false);
    }

    /** Promises 22 to 24, "STATE: MINUTE is above 9499", ahead of NONE and behind BEYOND. */
    private static void lateIsAboveNineThousandFourHundredNinetyNine() {
        Twins.Making early = () -> Settings.rich(9499);
        Twins.keeps("river at 9499", early, x -> x.river(1), 0);
        Twins.refuses("no river at 9499", early, x -> x.river(2), Due.NONE);
        Twins.refuses("no meeting at 9499", early, x -> x.meet(1, 2), Due.NONE);
        Twins.refuses("no home at 9499", early, x -> x.home(1), Due.NONE);
        for (int minute : new int[] {9500, 9999}) {
            Twins.Making late = () -> Settings.rich(minute);
            Twins.refuses("river, in it now", late, x -> x.river(1), Due.STATE);
            Twins.refuses("river, never", late, x -> x.river(2), Due.STATE);
            Twins.refuses("river of nobody", late, x -> x.river(6), Due.BEYOND);
            Twins.refuses("river of nobody", late, x -> x.river(-1), Due.BEYOND);
            Twins.refuses("meet", late, x -> x.meet(1, 2), Due.STATE);
            Twins.refuses("meet nobody", late, x -> x.meet(1, 6), Due.BEYOND);
            Twins.refuses("meet nobody", late, x -> x.meet(-1, 1), Due.BEYOND);
            Twins.refuses("meet himself", late, x -> x.meet(1, 1), Due.BEYOND);
            Twins.refuses("home", late, x -> x.home(1), Due.STATE);
            Twins.refuses("home of nobody", late, x -> x.home(6), Due.BEYOND);
            Twins.refuses("home of nobody", late, x -> x.home(-1), Due.BEYOND);
        }
        // bed makes it early again
        SleepWard x = Settings.rich(9999);
        x.bed();
        x.set(1, 2, 24);
        Due.is("river", x.river(1), 0);
    }

    /** Promise 25, "1 to 500". */
    private static void safeIsOneToFiveHundred() {
        for (int n : Settings.outside(1, 500)) {
            Twins.refuses("safe(" + n + ")", Settings::rich, x -> x.safe(n), Due.BEYOND);
            Twins.refuses("safe(" + n + ") late", () -> Settings.rich(9999), x -> x.safe(n), Due.BEYOND);
        }
        Twins.keeps("the least", Settings::rich, x -> x.safe(1), 1);
        SleepWard x = Settings.rich();
        Twins.keeps("the most", Settings::rich, y -> y.safe(500), x.minutes(500) == 0 ? 1 : 0);
    }

    /** Promise 25, "STATE: MINUTE would be above 9999". */
    private static void safeEndsWithTheLastMinute() {
        int[][] edges = {{9499, 500}, {9500, 499}, {9998, 1}};
        for (int[] edge : edges) {
            SleepWard x = Settings.atMinute(new SleepWard(), edge[0]);
            Due.is("to 9999", x.safe(edge[1]), 1);
            if (edge[1] < 500) {
                Twins.refuses("to 10000", () -> Settings.rich(edge[0]), y -> y.safe(edge[1] + 1), Due.STATE);
            }
        }
        Twins.refuses("behind the last", () -> Settings.rich(9999), y -> y.safe(1), Due.STATE);
    }

    /** Section 2, "nobody that isn't in the RIVER now". */
    private static void safeOfNobodyAndOfWhoIsInItNow() {
        SleepWard x = new SleepWard();
        Due.is("nobody is there", x.safe(500), 1);
        x.mark(0, 1, true);
        Due.is("nobody is there", x.safe(500), 1);
        Twins.keeps("all are in it now", Settings::full, y -> y.safe(500), 1);
        SleepWard y = Settings.full();
        y.mark(21, 1, false);
        Due.is("one is dry, all doors are shut", y.safe(500), 1);
        y.door(21, 22, true);
        Due.is("one door is open", y.safe(1), 0);
        y.wake(7, true);
        Due.is("he is awake", y.safe(500), 1);
    }

    /** Section 2, "within n MINUTES": in the last of them, too. */
    private static void safeIsWithinSoManyMinutes() {
        for (int away = 1; away <= 4; away++) {
            SleepWard x = new SleepWard();
            x.walker(0, 14 - away, 1);
            x.mark(14, 1, true);
            for (int n = 1; n <= 6; n++) {
                Due.is(away + " away by " + n, x.safe(n), n < away ? 1 : 0);
            }
        }
    }
}
