/** The edges of promises 41 to 45, of the findings and of an object's calls, a method for each sentence. */
public final class ImagesEdgesTest {
    public static void main(String[] args) {
        imagesOfTheEmptyAndTheFull();
        theLatestImageAlone();
        undoOfNothing();
        undoLeavesTheImage();
        undoTakesBackAllOfSectionOne();
        undoLeavesTapeSheetsAndStatus();
        undoGoesOnWithTheRounds();
        undoFromTheLastMinute();
        tearOfNothingAndOfSomething();
        countHasSevenParts();
        countsOfTheEmptyAndTheFull();
        countOfAnyZ();
        statusHasEightParts();
        statusOfAnotherIsCounted();
        statusOfEachFinding();
        whatLooksLikeAFindingIsNone();
        nothingTakesAFindingBack();
        fiveHundredTwelveCalls();
        Due.end();
    }

    /** Promise 41, ": 1". */
    private static void imagesOfTheEmptyAndTheFull() {
        SleepWard x = new SleepWard();
        Due.is("image", x.image(), 1);
        Due.is("nobody", x.undo(), 0);
        SleepWard y = Settings.full();
        Due.is("image", y.image(), 1);
        Due.is("image again", y.image(), 1);
        Due.is("all eight", y.undo(), 8);
        Twins.keeps("as it is kept already", Settings::full, SleepWard::image, 1);
        Twins.keeps("all eight", Settings::full, SleepWard::undo, 8);
    }

    /** Promise 42, "what was kept latest": no image stands behind it. */
    private static void theLatestImageAlone() {
        SleepWard x = new SleepWard();
        for (int moon = 0; moon <= 4; moon++) {
            x.moon(moon);
            x.image();
        }
        x.moon(1);
        for (int i = 0; i < 3; i++) {
            Due.is("undo", x.undo(), 0);
            Due.is("the latest", x.now(1), 4);
        }
        Due.is("tear", x.tear(), 1);
        Due.is("none behind it", x.undo(), Due.NONE);
        Due.is("tear", x.tear(), 0);
    }

    /** Promise 42, "NONE: nothing is kept": at first, and when it was torn. */
    private static void undoOfNothing() {
        Twins.refuses("at first", SleepWard::new, SleepWard::undo, Due.NONE);
        Twins.refuses("when it was torn", () -> {
            SleepWard x = Settings.rich();
            x.tear();
            return x;
        }, SleepWard::undo, Due.NONE);
    }

    /** Promise 42, "(which stays)": what changes then doesn't change it. */
    private static void undoLeavesTheImage() {
        SleepWard x = Settings.full();
        for (int i = 0; i < 2; i++) {
            Due.is("all eight", x.undo(), 8);
            x.turn(7, 0);
            x.set(7, 1, 0);
            x.set(7, 2, 0);
            x.set(7, 3, 0);
            x.wake(7, true);
            x.rest();
            x.round(8);
            x.height(24, 0);
            x.door(23, 24, true);
            x.mark(24, 0, false);
            x.mark(24, 1, false);
            x.minutes(7);
        }
        x.undo();
        int[] want = {1, 21, 21, 3, 0, 0};
        for (int what = 0; what < 6; what++) {
            Due.is("walker 7, part " + what, x.of(7, what), want[what]);
        }
        Due.is("rounds", x.count(4), 12);
        Due.is("height", x.squareOf(24, 0), 5);
        Due.is("doors", x.count(1), 40);
        Due.is("lamps", x.count(2), 25);
        Due.is("river", x.count(3), 25);
        Due.is("minute", x.now(0), 0);
        x.minutes(1);
        Due.is("the first of the rounds", x.now(2), 1);
    }

    /** Promise 41, "All that section 1 tells": each part, changed alone, becomes what it was. */
    private static void undoTakesBackAllOfSectionOne() {
        Twins.Act[] acts = {x -> x.door(0, 1, true), x -> x.door(23, 24, false), x -> x.height(24, 0), x -> x.lays(0),
            x -> x.mark(0, 0, true), x -> x.mark(24, 1, false), x -> x.moon(0), x -> x.round(24), SleepWard::rest,
            x -> x.walker(5, 24, 3), x -> x.set(5, 1, 24), x -> x.set(5, 2, 0), x -> x.set(5, 3, 0),
            x -> x.wake(0, true), x -> x.wake(2, false), x -> x.turn(5, 0), x -> x.minutes(1), x -> x.minutes(500),
            SleepWard::bed, x -> x.seed(0)};
        for (int i = 0; i < acts.length; i++) {
            Twins.Act act = acts[i];
            Twins.keeps("act " + i + " and undo", () -> {
                SleepWard x = Settings.rich();
                x.image();
                return x;
            }, x -> {
                act.on(x);
                return x.undo();
            }, 6);
        }
    }

    /** Promise 41, "(THE TAPE not)"; sheets are of section 3; promise 45, "undo() takes none back". */
    private static void undoLeavesTapeSheetsAndStatus() {
        SleepWard x = new SleepWard();
        Due.feed(x, "moon 3");
        x.sheet(0, 8, 2);
        x.write(0, 1, 7);
        x.sheet(1, 8, 1);
        x.image();
        x.wipe();
        Due.feed(x, "moon 1;lamp 3");
        x.write(0, 1, 9);
        x.sheet(1, 0, 0);
        x.sheet(2, 16, 4);
        x.moon(5);
        Due.is("undo", x.undo(), 0);
        Due.is("the tape", x.count(5), 13);
        Due.is("number", x.write(0, 1, 0), 9);
        Due.is("missing", x.write(1, 0, 0), Due.MISSING);
        Due.is("there", x.write(2, 3, 0), 0);
        Due.is("status", x.status(-1), 2);
        Due.is("the text", x.ward(), 2);
        Due.is("moon", x.now(1), 1);
    }

    /** Promise 41 keeps to which of the rounds the watcher went last, too. */
    private static void undoGoesOnWithTheRounds() {
        for (int went = 0; went <= 4; went++) {
            SleepWard x = new SleepWard();
            x.round(7);
            x.round(8);
            x.round(7);
            x.round(9);
            if (went > 0) {
                x.minutes(went);
            }
            x.image();
            x.minutes(2);
            x.undo();
            for (int i = went; i < went + 5; i++) {
                x.minutes(1);
                Due.is("round " + i, x.now(2), new int[] {7, 8, 7, 9}[i % 4]);
            }
        }
        // rounds that were empty when it was kept begin at the first again
        SleepWard x = new SleepWard();
        x.image();
        x.round(3);
        x.round(4);
        x.minutes(1);
        x.undo();
        x.round(5);
        x.round(6);
        x.minutes(1);
        Due.is("the first", x.now(2), 5);
    }

    /** Promise 42: MINUTE, too, becomes what it was. */
    private static void undoFromTheLastMinute() {
        SleepWard x = new SleepWard();
        x.image();
        Settings.atMinute(x, 9999);
        Due.is("no more", x.minutes(1), Due.STATE);
        x.undo();
        Due.is("minute", x.now(0), 0);
        Due.is("minutes again", x.minutes(1), 0);
        Settings.atMinute(x, 9999);
        x.image();
        x.bed();
        x.undo();
        Due.is("the last minute again", x.minutes(1), Due.STATE);
    }

    /** Promise 43, "1 if something was, else 0". */
    private static void tearOfNothingAndOfSomething() {
        Twins.keeps("nothing", SleepWard::new, SleepWard::tear, 0);
        SleepWard x = Settings.rich();
        Due.is("something", x.tear(), 1);
        Due.is("nothing", x.tear(), 0);
        Due.is("what there is stays", x.now(1), 3);
        Due.is("walkers", x.count(0), 6);
        Due.is("image", x.image(), 1);
        Due.is("something again", x.tear(), 1);
        // neither a look nor an undo tears it
        x.image();
        x.undo();
        Due.is("something yet", x.tear(), 1);
    }

    /** Promise 44, "BEYOND: another what". */
    private static void countHasSevenParts() {
        for (int what : Settings.outside(0, 6)) {
            Twins.refuses("count(" + what + ")", Settings::rich, x -> x.count(what), Due.BEYOND);
        }
        int[] want = {6, 3, 2, 1, 3, 13, -77};
        for (int what = 0; what < 7; what++) {
            int part = what;
            Twins.keeps("count(" + what + ")", Settings::rich, x -> x.count(part), want[part]);
        }
    }

    /** Promise 44: none and as many as can be. */
    private static void countsOfTheEmptyAndTheFull() {
        int[] none = {0, 0, 0, 0, 0, 0, 1};
        int[] most = {8, 40, 25, 25, 12, 120, 1};
        for (int what = 0; what < 7; what++) {
            Due.is("none of " + what, new SleepWard().count(what), none[what]);
            Due.is("most of " + what, Settings.full().count(what), most[what]);
        }
    }

    /** Promise 44, "6 z (any number)". */
    private static void countOfAnyZ() {
        SleepWard x = new SleepWard();
        for (int z : new int[] {0, -1, Integer.MIN_VALUE, Integer.MAX_VALUE, Due.BEYOND, Due.NONE, Due.SIZE}) {
            x.seed(z);
            Due.is("z", x.count(6), z);
        }
        Due.is("no findings", x.status(-1), 0);
    }

    /** Promise 45, "which -1: all, 0 to 6". */
    private static void statusHasEightParts() {
        int[] want = {2, 0, 1, 0, 1, 1, 1};
        int all = 0;
        for (int which = 0; which < 7; which++) {
            int one = which;
            all += want[which];
            Twins.keeps("status(" + which + ")", Settings::rich, x -> x.status(one), want[one]);
        }
        Twins.keeps("status(-1)", Settings::rich, x -> x.status(-1), all);
        for (int which = -1; which < 7; which++) {
            Due.is("none yet", new SleepWard().status(which), 0);
        }
    }

    /** Promise 45, "BEYOND (counted from then on): another one". */
    private static void statusOfAnotherIsCounted() {
        for (int which : Settings.outside(-1, 6)) {
            Twins.refuses("status(" + which + ")", Settings::rich, x -> x.status(which), Due.BEYOND);
            Twins.refuses("status(" + which + ")", SleepWard::new, x -> x.status(which), Due.BEYOND);
        }
        SleepWard x = new SleepWard();
        for (int i = 1; i <= 5; i++) {
            Due.is("another", x.status(7), Due.BEYOND);
            Due.is("counted", x.status(0), i);
            Due.is("of all", x.status(-1), i);
        }
    }

    /** Terms, the seven findings, each by another act; promise 45, "BEYOND to SIZE" in this order. */
    private static void statusOfEachFinding() {
        SleepWard x = Settings.full();
        x.tear();
        x.sheet(3, 0, 0);
        Twins.Act[] acts = {y -> y.moon(5), y -> y.walker(0, 0, 0), y -> y.as(0, 1), SleepWard::undo, y -> y.loop(0),
            y -> y.lays(3), y -> y.sheet(0, 8, -1)};
        int[] findings = {-1000000001, -1000000002, -1000000003, -1000000004, -1000000005, -1000000006, -1000000007};
        for (int which = 0; which < 7; which++) {
            for (int i = 0; i <= which; i++) {
                Due.is("finding", acts[which].on(x), findings[which]);
            }
        }
        for (int which = 0; which < 7; which++) {
            Due.is("status " + which, x.status(which), which + 1);
        }
        Due.is("all", x.status(-1), 28);
        // in longs, too
        Due.is("odds", x.odds(8, 0, 0), -1000000001L);
        Due.is("odds", x.odds(0, 0, 0), -1000000005L);
        Due.is("write", x.write(3, 0, 0), -1000000006L);
        Due.is("BEYOND", x.status(0), 2);
        Due.is("STATE", x.status(4), 6);
        Due.is("MISSING", x.status(5), 7);
    }

    /** Promise 45 counts acts that answered a finding: not those of whom a number is kept that looks so. */
    private static void whatLooksLikeAFindingIsNone() {
        SleepWard x = new SleepWard();
        x.sheet(0, 64, 1);
        for (int finding = Due.SIZE; finding <= Due.BEYOND; finding++) {
            x.seed(finding);
            Due.is("z", x.seed(finding), finding);
            Due.is("z", x.count(6), finding);
            x.write(0, 0, finding);
            Due.is("number", x.write(0, 0, finding), finding);
        }
        Due.ward(x, "moon 9", -6);
        x.walker(5, 0, 0);
        Due.is("no step", x.step(0), -1);
        Due.is("no findings", x.status(-1), 0);
    }

    /** Promise 45, "ever (undo() takes none back)": nor does any other act. */
    private static void nothingTakesAFindingBack() {
        SleepWard x = new SleepWard();
        x.image();
        x.moon(5);
        x.undo();
        x.tear();
        x.bed();
        x.rest();
        x.wipe();
        x.sheet(0, 0, 0);
        x.minutes(500);
        Due.is("counted yet", x.status(0), 1);
        Due.is("all", x.status(-1), 1);
        Due.is("another object has its own", new SleepWard().status(-1), 0);
    }

    /** "An object is used for at most 512 calls": the last of them is as good as the first. */
    private static void fiveHundredTwelveCalls() {
        SleepWard x = new SleepWard();
        for (int i = 1; i < 512; i++) {
            Due.is("call " + i, x.moon(5), Due.BEYOND);
        }
        Due.is("call 512", x.status(0), 511);
        SleepWard y = Settings.full();
        for (int i = 0; i < 170; i++) {
            y.image();
            y.undo();
        }
        Due.is("walkers", y.undo(), 8);
        SleepWard z = new SleepWard();
        for (int i = 1; i <= 128; i++) {
            z.feed(0x6D6F6F6E, 4);
            z.feed(' ' << 8 | '0' + i % 5, 2);
            Due.is("ward", z.ward(), 1);
            Due.is("call " + 4 * i, z.now(1), i % 5);
        }
    }
}
