/** The edges of promises 17 to 20 and of what goes in a minute, a method for each sentence that names one. */
public final class MinutesEdgesTest {
    public static void main(String[] args) {
        minutesAreOneToFiveHundred();
        minuteIsNineThousandNineHundredNinetyNineAtMost();
        minutesAreBeyondAheadOfState();
        nobodyComesOrAllEightDo();
        whoIsInTheRiverCameBefore();
        minutesOfNobodyChangeTheMinuteAlone();
        walkersGoByNumbers();
        whoIsAwakeOrInTheRiverStaysAndDrawsNot();
        noStepLeavesTheWay();
        whoIsInTheRiverIsNotWoken();
        theWatcherWakesBehindTheSteps();
        theWatcherGoesBehindTheWaking();
        whoGoesByTheWatcherSleepsOn();
        theWatcherNeedsNoDoors();
        bedOfNobodyAndOfAllEight();
        bedFromTheLastMinute();
        bedLeavesTheRest();
        seedsAreAnyNumber();
        nowHasSixParts();
        nowCountsNobodyAndAllEight();
        Due.end();
    }

    /** Promise 17, "1 to 500". */
    private static void minutesAreOneToFiveHundred() {
        for (int n : Settings.outside(1, 500)) {
            Twins.refuses("minutes(" + n + ")", Settings::rich, x -> x.minutes(n), Due.BEYOND);
        }
        SleepWard x = new SleepWard();
        Due.is("the least", x.minutes(1), 0);
        Due.is("minute", x.now(0), 1);
        Due.is("the most", x.minutes(500), 0);
        Due.is("minute", x.now(0), 501);
    }

    /** Section 1, "9999 at most"; promise 17, "STATE: MINUTE would be above 9999". */
    private static void minuteIsNineThousandNineHundredNinetyNineAtMost() {
        int[][] edges = {{9499, 500}, {9500, 499}, {9501, 498}, {9997, 2}, {9998, 1}};
        for (int[] edge : edges) {
            SleepWard x = Settings.atMinute(new SleepWard(), edge[0]);
            Due.is("to 9999", x.minutes(edge[1]), 0);
            Due.is("minute", x.now(0), 9999);
            if (edge[1] < 500) {
                Twins.refuses("to 10000", () -> Settings.rich(edge[0]), y -> y.minutes(edge[1] + 1), Due.STATE);
            }
        }
        Twins.refuses("behind the last", () -> Settings.rich(9999), y -> y.minutes(1), Due.STATE);
        Twins.refuses("behind the last", () -> Settings.rich(9999), y -> y.minutes(500), Due.STATE);
    }

    /** Promise 17, "BEYOND. STATE": in this order. */
    private static void minutesAreBeyondAheadOfState() {
        for (int n : Settings.outside(1, 500)) {
            Twins.refuses("minutes(" + n + ")", () -> Settings.rich(9999), x -> x.minutes(n), Due.BEYOND);
        }
    }

    /** Promise 17, "how many came into the RIVER by them": none and all, in one minute and in more. */
    private static void nobodyComesOrAllEightDo() {
        SleepWard x = new SleepWard();
        Due.is("nobody is there", x.minutes(500), 0);
        for (int i = 0; i < 8; i++) {
            x.walker(0, 10 + i % 2, 1);
        }
        Due.is("no river", x.minutes(1), 0);
        x.mark(13, 1, true);
        Due.is("four in one minute", x.minutes(1), 4);
        Due.is("four in the next", x.minutes(1), 4);
        Due.is("no more", x.minutes(100), 0);
        SleepWard y = new SleepWard();
        for (int i = 0; i < 8; i++) {
            y.walker(0, 10 + i % 2, 1);
        }
        y.mark(13, 1, true);
        Due.is("all eight", y.minutes(3), 8);
        Due.is("they are in it", y.now(4), 8);
    }

    /** Promise 17: who was in it, or is set there, hasn't come by these minutes. */
    private static void whoIsInTheRiverCameBefore() {
        SleepWard x = Settings.full();
        Due.is("all were in it", x.minutes(500), 0);
        SleepWard y = new SleepWard();
        y.walker(0, 12, 0);
        y.mark(12, 1, true);
        Due.is("it rose over him", y.minutes(3), 0);
        y.mark(12, 1, false);
        y.mark(7, 1, true);
        y.set(0, 2, 7);
        Due.is("he was set there", y.minutes(3), 0);
        y.mark(7, 1, false);
        y.mark(2, 1, true);
        Due.is("the next one", y.minutes(3), 1);
    }

    /** Section 1: without walkers and rounds only MINUTE goes. */
    private static void minutesOfNobodyChangeTheMinuteAlone() {
        Twins.changes("minutes(1)", SleepWard::new, x -> x.minutes(1), 0, "minute");
        Twins.changes("minutes(500)", SleepWard::new, x -> x.minutes(500), 0, "minute");
        // twelve rounds come round in twelve minutes
        Twins.changes("minutes(12) of the full ward", () -> Settings.atMinute(Settings.full(), 1), x -> x.minutes(12), 0,
            "minute");
    }

    /** Section 1, "by numbers each WALKER": the draws of all eight, one behind the other. */
    private static void walkersGoByNumbers() {
        SleepWard x = new SleepWard();
        for (int i = 0; i < 8; i++) {
            x.walker(i == 3 ? 0 : 4, 12, 2);
        }
        int z = 1;
        int[] beside = {7, 13, 17, 11};
        x.minutes(1);
        for (int i = 0; i < 8; i++) {
            int way = 2;
            if (i != 3) {
                z = z * 1103515245 + 12345;
                way = (z >>> 8) % 4;
            }
            Due.is("place of " + i, x.of(i, 2), beside[way]);
            Due.is("way of " + i, x.of(i, 3), way);
        }
        Due.is("z", x.count(6), z);
    }

    /** Section 1, "each WALKER that isn't AWAKE, nor in the RIVER". */
    private static void whoIsAwakeOrInTheRiverStaysAndDrawsNot() {
        SleepWard x = new SleepWard();
        x.walker(4, 12, 0);
        x.walker(4, 18, 0);
        x.wake(0, true);
        x.mark(18, 1, true);
        x.minutes(500);
        Due.is("awake", x.of(0, 2), 12);
        Due.is("in the river", x.of(1, 2), 18);
        Due.is("no draw", x.count(6), 1);
        x.wake(0, false);
        x.minutes(1);
        Due.is("one draw", x.count(6), 1103515245 + 12345);
    }

    /** Section 1, "its STEP, if there is one, is its WAY then". */
    private static void noStepLeavesTheWay() {
        SleepWard x = new SleepWard();
        x.walker(5, 12, 3);
        x.walker(3, 13, 2);
        x.wake(1, true);
        x.minutes(1);
        x.wake(1, false);
        x.minutes(5);
        Due.is("a mooner's way", x.of(0, 3), 3);
        Due.is("a mooner's place", x.of(0, 2), 12);
        Due.is("a homer's way", x.of(1, 3), 2);
        Due.is("a homer's place", x.of(1, 2), 13);
    }

    /** Section 1, "each that isn't AWAKE, nor in the RIVER, is AWAKE": who comes into it, stands in it; till it is dry. */
    private static void whoIsInTheRiverIsNotWoken() {
        SleepWard x = new SleepWard();
        x.walker(0, 1, 3);
        x.walker(5, 0, 0);
        x.mark(0, 1, true);
        Due.is("one came to the watcher", x.minutes(1), 1);
        Due.is("asleep", x.now(3), 0);
        x.minutes(10);
        Due.is("asleep yet", x.now(3), 0);
        x.mark(0, 1, false);
        x.set(0, 2, 1);
        x.set(0, 3, 3);
        x.minutes(1);
        Due.is("both are woken", x.now(3), 2);
        // who was awake in the river is so yet
        x.mark(0, 1, true);
        x.minutes(1);
        Due.is("both are awake yet", x.now(3), 2);
    }

    /** Section 1, "Then each .. is AWAKE, if THE WATCHER is at its PLACE": where it is behind its step. */
    private static void theWatcherWakesBehindTheSteps() {
        SleepWard x = new SleepWard();
        x.walker(0, 0, 1);
        x.walker(0, 1, 3);
        x.walker(0, 5, 0);
        x.walker(5, 0, 2);
        x.minutes(1);
        Due.is("it left the watcher", x.of(0, 4), 0);
        Due.is("it came", x.of(1, 4), 1);
        Due.is("it came", x.of(2, 4), 1);
        Due.is("it stayed there", x.of(3, 4), 1);
    }

    /** Section 1, "Then THE WATCHER .. goes": whom it comes upon it wakes in the next minute, if he is there yet. */
    private static void theWatcherGoesBehindTheWaking() {
        SleepWard x = new SleepWard();
        x.walker(5, 9, 0);
        x.round(9);
        x.round(3);
        x.minutes(1);
        Due.is("the watcher came", x.now(2), 9);
        Due.is("asleep yet", x.of(0, 4), 0);
        x.minutes(1);
        Due.is("woken", x.of(0, 4), 1);
        Due.is("the watcher went on", x.now(2), 3);
    }

    /** Section 1: they change squares with one another, and are at one place never. */
    private static void whoGoesByTheWatcherSleepsOn() {
        SleepWard x = new SleepWard();
        x.walker(0, 7, 3);
        x.round(6);
        x.round(7);
        x.minutes(1);
        Due.is("he is there first", x.of(0, 2), 6);
        Due.is("then the watcher", x.now(2), 6);
        x.minutes(1);
        Due.is("he went on", x.of(0, 2), 5);
        Due.is("asleep", x.of(0, 4), 0);
    }

    /** Section 1, "BESIDE one another or not", "whatever DOORS"; nor does the river hold it. */
    private static void theWatcherNeedsNoDoors() {
        SleepWard x = Settings.full();
        for (int i = 0; i < 14; i++) {
            x.minutes(1);
            Due.is("all doors are shut, all is river", x.now(2), 2 * (i % 12) + 1);
        }
    }

    /** Promise 18, "how many weren't at HOME". */
    private static void bedOfNobodyAndOfAllEight() {
        Twins.keeps("nobody", SleepWard::new, SleepWard::bed, 0);
        SleepWard x = new SleepWard();
        for (int i = 0; i < 8; i++) {
            x.walker(0, 10 + i, 0);
            x.set(i, 2, i);
            x.wake(i, true);
        }
        Due.is("all eight", x.bed(), 8);
        Due.is("at home", x.now(5), 8);
        Due.is("asleep", x.now(3), 0);
        Due.is("nobody more", x.bed(), 0);
        x.wake(7, true);
        Due.is("awake at home", x.bed(), 0);
        Due.is("asleep", x.now(3), 0);
        // the river doesn't hold them
        SleepWard y = new SleepWard();
        y.walker(0, 12, 0);
        y.mark(7, 1, true);
        y.minutes(2);
        Due.is("out of the river", y.bed(), 1);
        Due.is("home", y.of(0, 2), 12);
    }

    /** Promise 18, "MINUTE becomes 0". */
    private static void bedFromTheLastMinute() {
        SleepWard x = Settings.atMinute(new SleepWard(), 9999);
        Due.is("no more", x.minutes(1), Due.STATE);
        Due.is("bed", x.bed(), 0);
        Due.is("minute", x.now(0), 0);
        Due.is("minutes again", x.minutes(500), 0);
        Due.is("minute", x.now(0), 500);
    }

    /** Promise 18: ways, the moon, z, the watcher and its rounds stay, and all else. */
    private static void bedLeavesTheRest() {
        SleepWard x = Settings.rich();
        int away = 0;
        java.util.List<String> names = new java.util.ArrayList<>(java.util.List.of("minute"));
        for (int i = 0; i < 6; i++) {
            if (x.of(i, 2) != x.of(i, 1)) {
                away++;
                names.add("place " + i);
            }
            if (x.of(i, 4) == 1) {
                names.add("awake " + i);
            }
        }
        Twins.changes("bed", Settings::rich, SleepWard::bed, away, names.toArray(new String[0]));
    }

    /** Promise 19, "z becomes v: what it was": any number, even one that looks like a finding. */
    private static void seedsAreAnyNumber() {
        SleepWard x = new SleepWard();
        int was = 1;
        int[] seeds = {0, -1, Integer.MAX_VALUE, Integer.MIN_VALUE, Due.BEYOND, Due.SIZE, 1};
        for (int v : seeds) {
            Due.is("seed", x.seed(v), was);
            Due.is("z", x.count(6), v);
            was = v;
        }
        Due.is("no findings", x.status(-1), 0);
        Twins.changes("seed", Settings::rich, y -> y.seed(0), -77, "z");
    }

    /** Promise 20, what 0 to 5. */
    private static void nowHasSixParts() {
        for (int what : Settings.outside(0, 5)) {
            Twins.refuses("now(" + what + ")", Settings::rich, x -> x.now(what), Due.BEYOND);
        }
        int[] want = {4, 3, 5, 3, 1, 1};
        for (int what = 0; what < 6; what++) {
            int part = what;
            Twins.keeps("now(" + what + ")", Settings::rich, x -> x.now(part), want[part]);
        }
    }

    /** Promise 20, "how many": none and all. */
    private static void nowCountsNobodyAndAllEight() {
        SleepWard x = new SleepWard();
        for (int i = 0; i < 8; i++) {
            x.walker(i % 6, 24 - i, 0);
            x.set(i, 2, 0);
        }
        Due.is("awake", x.now(3), 0);
        Due.is("in the river", x.now(4), 0);
        Due.is("at home", x.now(5), 0);
        for (int i = 0; i < 8; i++) {
            x.wake(i, true);
            x.set(i, 2, 24 - i);
            x.mark(24 - i, 1, true);
            Due.is("awake", x.now(3), i + 1);
            Due.is("in the river", x.now(4), i + 1);
            Due.is("at home", x.now(5), i + 1);
        }
    }
}
