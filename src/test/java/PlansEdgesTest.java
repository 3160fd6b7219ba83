/** The edges of promises 26 to 31 and of BARRED and ODDS, a method for each sentence that names one. */
public final class PlansEdgesTest {
    private static final long ALL_PARTS = 15407021574586368L;

    public static void main(String[] args) {
        barredIsOneToAHundredTwenty();
        barredHasTwoParts();
        barredEndsWithTheLastMinute();
        barsAreAmongTwelveAtMost();
        sizeIsBehindStateAndBeyond();
        barsAreOpenDoorsOfOneBank();
        noBarsAndAllTwelve();
        fewestBarsFirst();
        ofSeveralTheLeastBars();
        lampIsOneToAHundredTwenty();
        lampEndsWithTheLastMinute();
        lampsThatChangeNobody();
        lampsInTheFirstAndTheLastSquare();
        mostAreMovedAndOfSeveralTheLeast();
        lampsAreAskedBehindTheLastMinuteAlone();
        watchIsOneToAHundredTwenty();
        watchEndsWithTheLastMinute();
        watchWithNobodyToWake();
        watchInTheFirstAndTheLastSquare();
        mostAreWokenAndOfSeveralTheLeast();
        loopOfNoWalker();
        loopOfOneThatIsNotSo();
        loopsOfOneMinuteAndOfMany();
        loopsOfWhatThereIs();
        loopsThatNeverCloseAndTheRiver();
        loopsNeedNoMinutesLeft();
        nobodyWakesOneInALoop();
        oddsAreZeroToFifteen();
        oddsOfNoWalkerOrSquare();
        oddsOfOneThatDoesNotWander();
        oddsOfOneToFourWays();
        oddsOfOneThatIsHeld();
        allOddsAreAllParts();
        likeliestIsZeroToFifteen();
        likeliestOfNoWalker();
        likeliestOfOneThatDoesNotWander();
        likeliestInTheFirstAndTheLastSquare();
        Due.end();
    }

    /** Promise 26, "1 to 120". */
    private static void barredIsOneToAHundredTwenty() {
        for (int n : Settings.outside(1, 120)) {
            for (int what = 0; what < 2; what++) {
                int part = what;
                Twins.refuses("barred(" + n + ", " + what + ")", Settings::rich, x -> x.barred(n, part), Due.BEYOND);
            }
        }
        Twins.keeps("the least", Settings::rich, x -> x.barred(1, 0), 0);
        Twins.keeps("the most", PlansEdgesTest::oneToTheRiver, x -> x.barred(120, 0), 1);
    }

    /** It comes to 8 in two minutes; doors of 8 in their order: 3-8, 7-8, 8-9, 8-13. */
    private static SleepWard oneToTheRiver() {
        return Due.told("walker at 6 way 1;river 8");
    }

    /** Promise 26, what 0 and 1. */
    private static void barredHasTwoParts() {
        for (int what : Settings.outside(0, 1)) {
            Twins.refuses("barred(5, " + what + ")", Settings::rich, x -> x.barred(5, what), Due.BEYOND);
        }
        Twins.keeps("how many", PlansEdgesTest::oneToTheRiver, x -> x.barred(2, 0), 1);
        Twins.keeps("the set", PlansEdgesTest::oneToTheRiver, x -> x.barred(2, 1), 2);
        Twins.keeps("none in one minute", PlansEdgesTest::oneToTheRiver, x -> x.barred(1, 0), 0);
        Twins.keeps("the empty set", PlansEdgesTest::oneToTheRiver, x -> x.barred(1, 1), 0);
    }

    /** Promise 26, "STATE likewise": MINUTE would be above 9999. */
    private static void barredEndsWithTheLastMinute() {
        SleepWard x = Settings.atMinute(new SleepWard(), 9879);
        Due.is("to 9999", x.barred(120, 0), 0);
        x.minutes(1);
        Due.is("to 9999", x.barred(119, 1), 0);
        Due.is("to 10000", x.barred(120, 1), Due.STATE);
        Settings.atMinute(x, 9998);
        Due.is("to 9999", x.barred(1, 1), 0);
        Twins.refuses("to 10000", () -> Settings.rich(9998), y -> y.barred(2, 0), Due.STATE);
        Twins.refuses("behind the last", () -> Settings.rich(9999), y -> y.barred(1, 1), Due.STATE);
        Twins.refuses("n ahead of late", () -> Settings.rich(9999), y -> y.barred(121, 0), Due.BEYOND);
        Twins.refuses("n ahead of late", () -> Settings.rich(9999), y -> y.barred(0, 0), Due.BEYOND);
        Twins.refuses("what ahead of late", () -> Settings.rich(9999), y -> y.barred(1, 2), Due.BEYOND);
        Twins.refuses("what ahead of late", () -> Settings.rich(9999), y -> y.barred(1, -1), Due.BEYOND);
    }

    /** Three squares of the river with four doors each, and one with two. */
    private static SleepWard fourteenBanks() {
        return Due.told("river 6;river 8;river 16;river 24;walker at 7;walker at 2 way 3");
    }

    private static SleepWard thirteenBanks() {
        SleepWard x = fourteenBanks();
        x.door(24, 23, false);
        return x;
    }

    /** Section 2, "12 at most"; promise 26, "SIZE: there are more than 12 such DOORS", even if it is safe. */
    private static void barsAreAmongTwelveAtMost() {
        for (int what = 0; what < 2; what++) {
            int part = what;
            Twins.refuses("of fourteen", PlansEdgesTest::fourteenBanks, x -> x.barred(1, part), Due.SIZE);
            Twins.refuses("of thirteen", PlansEdgesTest::thirteenBanks, x -> x.barred(1, part), Due.SIZE);
        }
        SleepWard x = thirteenBanks();
        Due.is("it is safe", x.safe(1), 1);
        x.door(24, 19, false);
        Due.is("of twelve", x.barred(1, 0), 0);
        // four times three of the edges, four times two of the corners and four of the midst
        int[][] twelves = {{2, 10, 14, 22}, {1, 3, 21, 23}, {5, 15, 9, 19}, {0, 4, 20, 24, 12}};
        for (int[] rivers : twelves) {
            SleepWard edge = new SleepWard();
            for (int square : rivers) {
                edge.mark(square, 1, true);
            }
            Due.is("of twelve", edge.barred(1, 0), 0);
            edge.mark(rivers[0] == 0 ? 22 : 0, 1, true);
            Due.is("of more", edge.barred(1, 0), rivers[0] == 1 || rivers[0] == 5 ? 0 : Due.SIZE);
        }
        // most doors of all: every second square
        SleepWard y = new SleepWard();
        for (int square = 0; square < 25; square += 2) {
            y.mark(square, 1, true);
        }
        Due.is("of forty", y.barred(1, 0), Due.SIZE);
        Due.is("counted", y.status(6), 1);
    }

    /** Promise 26, "BEYOND. STATE likewise. SIZE": in this order. */
    private static void sizeIsBehindStateAndBeyond() {
        Twins.refuses("n", PlansEdgesTest::thirteenBanks, x -> x.barred(0, 0), Due.BEYOND);
        Twins.refuses("n", PlansEdgesTest::thirteenBanks, x -> x.barred(121, 0), Due.BEYOND);
        Twins.refuses("what", PlansEdgesTest::thirteenBanks, x -> x.barred(1, 2), Due.BEYOND);
        Twins.refuses("late", () -> Settings.atMinute(thirteenBanks(), 9999), x -> x.barred(1, 0), Due.STATE);
        Twins.refuses("not late yet", () -> Settings.atMinute(thirteenBanks(), 9998), x -> x.barred(1, 0), Due.SIZE);
    }

    /** Section 2, "those open DOORS one of whose SQUARES is of the RIVER and the other isn't". */
    private static void barsAreOpenDoorsOfOneBank() {
        SleepWard x = Settings.full();
        Due.is("all is river", x.barred(120, 1), 0);
        SleepWard y = oneToTheRiver();
        y.mark(3, 1, true);
        // of 3: 2-3, 3-4; of 8: 7-8, 8-9, 8-13; 3-8 is between two of the river
        Due.is("the third", y.barred(2, 1), 4);
        y.door(2, 3, false);
        Due.is("the second, since the first is shut", y.barred(2, 1), 2);
        // both squares of the first door and of the last one
        Due.is("the first of all", Due.told("walker at 1 way 3;river 0").barred(1, 1), 1);
        Due.is("the last of all", Due.told("walker at 23 way 1;river 24").barred(1, 1), 2);
        Due.is("by the lesser square", Due.told("walker at 19 way 2;river 24").barred(1, 1), 1);
    }

    /** Section 2, "a set of DOORS": the empty one and that of all twelve. */
    private static void noBarsAndAllTwelve() {
        Twins.keeps("nobody is there", SleepWard::new, x -> x.barred(120, 0), 0);
        Twins.keeps("nobody is there", SleepWard::new, x -> x.barred(120, 1), 0);
        Twins.keeps("all are in it now", Settings::full, x -> x.barred(120, 1), 0);
        Twins.keeps("all twelve", PlansEdgesTest::eightAround, x -> x.barred(120, 0), 12);
        Twins.keeps("all twelve", PlansEdgesTest::eightAround, x -> x.barred(120, 1), 4095);
        int[] banks = banksOf(eightAround());
        Due.is("twelve banks", banks.length / 2, 12);
        for (int left = 0; left < 12; left++) {
            Due.is("without one of them", shutBars(eightAround(), banks, 4095 ^ 1 << left).safe(120), 0);
        }
        Due.is("with all", shutBars(eightAround(), banks, 4095).safe(120), 1);
    }

    /** Six who wander and two who walk about a river of three squares. */
    private static SleepWard eightAround() {
        SleepWard x = new SleepWard();
        for (int square : new int[] {6, 8, 16}) {
            x.mark(square, 1, true);
        }
        int[][] walkers = {{4, 22, 1}, {4, 9, 2}, {4, 23, 0}, {0, 9, 3}, {0, 21, 1}, {4, 24, 1}, {4, 3, 0}, {4, 0, 0}};
        for (int[] w : walkers) {
            x.walker(w[0], w[1], w[2]);
        }
        return x;
    }

    /** The open doors at the river in their order, two squares each, by the calls that tell of them. */
    private static int[] banksOf(SleepWard x) {
        int[] banks = new int[80];
        int many = 0;
        for (int one = 0; one < 25; one++) {
            for (int other : new int[] {one + 1, one + 5}) {
                boolean beside = other == one + 1 ? one % 5 < 4 : one < 20;
                if (beside && x.isOpen(one, other) == 1 && x.squareOf(one, 2) != x.squareOf(other, 2)) {
                    banks[many++] = one;
                    banks[many++] = other;
                }
            }
        }
        return java.util.Arrays.copyOf(banks, many);
    }

    private static SleepWard shutBars(SleepWard x, int[] banks, int set) {
        for (int i = 0; i < banks.length / 2; i++) {
            if ((set >> i & 1) != 0) {
                x.door(banks[2 * i], banks[2 * i + 1], false);
            }
        }
        return x;
    }

    /** Section 2, "fewest first": one door, though two whose set is less would do as well. */
    private static void fewestBarsFirst() {
        int[][] wards = {{4534, 8, 0, 9, 1, 4, 19, 2, 4}, {3470, 16, 4, 5, 2, 4, 22, 2, 8}};
        for (int[] w : wards) {
            Twins.Making making = () -> twoByTheRiver(w);
            Twins.keeps("one alone", making, x -> x.barred(10, 0), 1);
            Twins.keeps("which", making, x -> x.barred(10, 1), w[8]);
            Due.is("two whose set is less", shutBars(making.make(), banksOf(making.make()), 3).safe(10), 1);
            for (int set = 0; set < w[8]; set++) {
                if (Integer.bitCount(set) < 2) {
                    Due.is("not so few", shutBars(making.make(), banksOf(making.make()), set).safe(10), 0);
                }
            }
        }
    }

    private static SleepWard twoByTheRiver(int[] w) {
        SleepWard x = new SleepWard();
        x.seed(w[0]);
        x.mark(w[1], 1, true);
        x.walker(w[2], w[3], w[4]);
        x.walker(w[5], w[6], w[7]);
        return x;
    }

    /** Section 2, "of several the least set (by the order of these DOORS ..)": 6 is less than 9 and 12. */
    private static void ofSeveralTheLeastBars() {
        Twins.Making making = () -> twoByTheRiver(new int[] {622, 7, 4, 4, 0, 4, 13, 0});
        int[] banks = banksOf(making.make());
        for (int set = 0; set < 16; set++) {
            if (Integer.bitCount(set) <= 2) {
                int want = set == 6 || set == 9 || set == 12 ? 1 : 0;
                Due.is("set " + set, shutBars(making.make(), banks, set).safe(12), want);
            }
        }
        Twins.keeps("the least", making, x -> x.barred(12, 1), 6);
        Twins.keeps("two", making, x -> x.barred(12, 0), 2);
    }

    /** Promise 27, "1 to 120". */
    private static void lampIsOneToAHundredTwenty() {
        for (int n : Settings.outside(1, 120)) {
            Twins.refuses("lamp(" + n + ")", Settings::rich, x -> x.lamp(n), Due.BEYOND);
            Twins.refuses("lamp(" + n + ") late", () -> Settings.rich(9999), x -> x.lamp(n), Due.BEYOND);
        }
        Twins.keeps("the least", () -> Due.told("lamper at 12"), x -> x.lamp(1), 11);
        Twins.Making making = () -> Due.told("lamper at 12;lamper at 3 way 2;mooner at 9;moon 4;wanderer at 22;lamp 16");
        for (int n : new int[] {1, 2, 7, 119, 120}) {
            Twins.keeps("lamp(" + n + ")", making, x -> x.lamp(n), lampByHand(making, n));
        }
    }

    /** Each lamp is put into a ward of its own, and all are asked where they are then. */
    private static int lampByHand(Twins.Making making, int n) {
        int best = Due.NONE;
        int most = 0;
        for (int square = 0; square < 25; square++) {
            SleepWard without = making.make();
            SleepWard with = making.make();
            int others = 0;
            if (with.mark(square, 0, true) == 1) {
                for (int walker = 0; walker < with.count(0); walker++) {
                    others += with.on(walker, n) != without.on(walker, n) ? 1 : 0;
                }
            }
            best = others > most ? square : best;
            most = Math.max(most, others);
        }
        return best;
    }

    /** Promise 27, "STATE likewise", ahead of NONE. */
    private static void lampEndsWithTheLastMinute() {
        SleepWard x = Due.told("lamper at 12");
        x.wake(0, true);
        Settings.atMinute(x, 9879);
        Due.is("none to 9999", x.lamp(120), Due.NONE);
        x.minutes(1);
        Due.is("none", x.lamp(119), Due.NONE);
        Due.is("late", x.lamp(120), Due.STATE);
        Twins.refuses("to 10000", () -> Settings.rich(9998), y -> y.lamp(2), Due.STATE);
        Twins.refuses("behind the last", () -> Settings.rich(9999), y -> y.lamp(1), Due.STATE);
        Twins.refuses("behind the last, with nobody", () -> Settings.atMinute(new SleepWard(), 9999), y -> y.lamp(1),
            Due.STATE);
    }

    /** Promise 27, "NONE: none changes any". */
    private static void lampsThatChangeNobody() {
        Twins.refuses("nobody is there", SleepWard::new, x -> x.lamp(1), Due.NONE);
        Twins.refuses("nobody sees them", () -> Due.told("walker at 12;sloper at 3;homer at 5;wanderer at 7;mooner at 8"),
            x -> x.lamp(120), Due.NONE);
        Twins.refuses("they stand everywhere", Settings::full, x -> x.lamp(120), Due.NONE);
        Twins.refuses("it is too far", () -> lampsBut("lamper at 12", 24), x -> x.lamp(1), Due.NONE);
        Twins.refuses("he goes there anyway", () -> lampsBut("lamper at 24;shut 23 24", 19), x -> x.lamp(1), Due.NONE);
        Twins.refuses("he is awake", () -> {
            SleepWard x = Due.told("lamper at 12");
            x.wake(0, true);
            return x;
        }, x -> x.lamp(120), Due.NONE);
    }

    /** Lamps in all squares but one. */
    private static SleepWard lampsBut(String text, int square) {
        SleepWard x = Due.told(text);
        for (int other = 0; other < 25; other++) {
            x.mark(other, 0, other != square);
        }
        return x;
    }

    /** Promise 27, "The SQUARE (without a LAMP)": 0 and 24 as well; the last one that has none. */
    private static void lampsInTheFirstAndTheLastSquare() {
        Twins.keeps("the first", () -> Due.told("lamper at 5 way 2"), x -> x.lamp(1), 0);
        Twins.keeps("the last", () -> Due.told("lamper at 19;shut 19 18"), x -> x.lamp(1), 24);
        Twins.keeps("the only one left", () -> lampsBut("lamper at 12 way 2", 17), x -> x.lamp(1), 17);
        Twins.keeps("a mooner by full moon", () -> Due.told("mooner at 5 way 2;moon 4"), x -> x.lamp(1), 0);
    }

    /** Promise 27, "most WALKERS", "of several the least". */
    private static void mostAreMovedAndOfSeveralTheLeast() {
        Twins.keeps("one at 11, two at 13", () -> Due.told("lamper at 12;lamper at 18 way 2"), x -> x.lamp(1), 13);
        Twins.keeps("one each", () -> Due.told("lamper at 12;lamper at 23 way 1"), x -> x.lamp(1), 11);
        SleepWard x = new SleepWard();
        for (int i = 0; i < 8; i++) {
            x.walker(2, i < 4 ? 6 : 18, 0);
        }
        Due.is("four each, the least", x.lamp(1), 5);
        x.wake(0, true);
        Due.is("three or four", x.lamp(1), 17);
        for (int ward = 0; ward < 40; ward++) {
            int number = ward;
            Twins.Making making = () -> eightWhoSeeLamps(number);
            Due.is("eight of ward " + ward, making.make().lamp(1 + ward % 9), lampByHand(making, 1 + ward % 9));
        }
        // to and fro between 12 and 11, or into the river at 13: the very next square counts as another
        String text = "lamper at 12 way 3;river 13;shut 12 7;shut 12 17;shut 11 6;shut 11 10;shut 11 16";
        Twins.keeps("13, not 12", () -> Due.told(text), y -> y.lamp(2), 13);
    }

    /** Lampers and mooners by full moon, with some doors shut and a lamp or two. */
    private static SleepWard eightWhoSeeLamps(int number) {
        SleepWard x = new SleepWard();
        java.util.Random r = new java.util.Random(number);
        x.moon(4);
        for (int i = 0; i < 8; i++) {
            x.walker(r.nextInt(3) == 0 ? 5 : 2, r.nextInt(25), r.nextInt(4));
        }
        for (int i = 0; i < 9; i++) {
            int square = r.nextInt(20);
            x.door(square, square + 5, false);
        }
        x.mark(r.nextInt(25), 0, true);
        x.mark(r.nextInt(25), 1, true);
        return x;
    }

    /** Promise 27, "be at another PLACE ON n MINUTES": not on the way, but behind the last. */
    private static void lampsAreAskedBehindTheLastMinuteAlone() {
        // from 6 to 12 by 7, or by 11 if a lamp stands there
        Twins.Making making = () -> {
            SleepWard x = Due.told("lamper at 6 way 1;lamp 12;shut 1 6;shut 5 6;shut 2 7;shut 7 8;shut 12 13");
            Due.ward(x, "shut 12 17;shut 11 16;shut 10 11", 3);
            return x;
        };
        SleepWard x = making.make();
        Due.is("by 7", x.on(0, 1), 7);
        Due.is("to 12", x.on(0, 2), 12);
        x.mark(11, 0, true);
        Due.is("by 11", x.on(0, 1), 11);
        Due.is("to 12", x.on(0, 2), 12);
        Twins.keeps("another place in one minute", making, y -> y.lamp(1), 11);
        Twins.refuses("none in two", making, y -> y.lamp(2), Due.NONE);
    }

    /** Promise 28, "1 to 120". */
    private static void watchIsOneToAHundredTwenty() {
        for (int n : Settings.outside(1, 120)) {
            Twins.refuses("watch(" + n + ")", Settings::rich, x -> x.watch(n), Due.BEYOND);
            Twins.refuses("watch(" + n + ") late", () -> Settings.rich(9999), x -> x.watch(n), Due.BEYOND);
        }
        Twins.keeps("the least", () -> Due.told("walker at 12"), x -> x.watch(1), 7);
        // round the ward, by 7 and 2 first, the least that it comes by in so many
        Twins.keeps("the most", () -> Due.told("walker at 12"), x -> x.watch(120), 0);
    }

    /** Promise 28, "STATE likewise". */
    private static void watchEndsWithTheLastMinute() {
        SleepWard x = Settings.atMinute(new SleepWard(), 9879);
        Due.is("to 9999", x.watch(120), 0);
        x.minutes(1);
        Due.is("to 9999", x.watch(119), 0);
        Due.is("to 10000", x.watch(120), Due.STATE);
        Settings.atMinute(x, 9998);
        Due.is("to 9999", x.watch(1), 0);
        Twins.refuses("to 10000", () -> Settings.rich(9998), y -> y.watch(2), Due.STATE);
        Twins.refuses("behind the last", () -> Settings.rich(9999), y -> y.watch(1), Due.STATE);
    }

    /** Promise 28: if it is the same everywhere, the least square of all. */
    private static void watchWithNobodyToWake() {
        Twins.keeps("nobody is there", SleepWard::new, x -> x.watch(1), 0);
        Twins.keeps("all are in the river", Settings::full, x -> x.watch(120), 0);
        SleepWard x = Due.told("walker at 24;walker at 23");
        x.wake(0, true);
        x.wake(1, true);
        Due.is("all are awake", x.watch(120), 0);
        x.wake(1, false);
        Due.is("one isn't", x.watch(1), 18);
    }

    /** Promise 28, "The SQUARE": 0 and 24 as well. */
    private static void watchInTheFirstAndTheLastSquare() {
        Twins.keeps("the first", () -> Due.told("mooner at 0"), x -> x.watch(1), 0);
        Twins.keeps("the last", () -> Due.told("mooner at 24"), x -> x.watch(1), 24);
    }

    /** Promise 28, "most AWAKE", "of several the least", "staying there from now on (ROUNDS empty)". */
    private static void mostAreWokenAndOfSeveralTheLeast() {
        Twins.keeps("two at 20, one at 3", () -> Due.told("mooner at 3;mooner at 20;mooner at 20"), x -> x.watch(1), 20);
        Twins.keeps("two each", () -> Due.told("mooner at 20;mooner at 3;mooner at 20;mooner at 3"), x -> x.watch(1), 3);
        SleepWard x = new SleepWard();
        for (int i = 0; i < 8; i++) {
            x.walker(0, 15 + i % 5, 2);
        }
        x.round(1);
        x.round(2);
        // in the last row they go to and fro; nobody comes by the first ones
        Due.is("the watcher stays", x.watch(1), 20);
        Due.is("rounds are as they were", x.count(4), 2);
        Due.is("the watcher is where it was", x.now(2), 0);
        // if it went on its rounds to 1, it would wake both from 3 on
        Twins.keeps("the least of 1 and 3", () -> Due.told("mooner at 3;mooner at 1;rounds 1"), v -> v.watch(2), 1);
        SleepWard y = Due.told("walker at 22 way 3;walker at 10 way 2");
        Due.is("in the second minute both", y.watch(2), 20);
        Due.is("in the first one of them", y.watch(1), 15);
    }

    /** Promise 29, "BEYOND". */
    private static void loopOfNoWalker() {
        Twins.refusesWalkers("loop", (x, walker) -> x.loop(walker));
    }

    /** Promise 29, "STATE: it isn't so": another kind, awake, in the river, each alone. */
    private static void loopOfOneThatIsNotSo() {
        for (int kind = 1; kind < 6; kind++) {
            int other = kind;
            Twins.refuses("kind " + kind, () -> Due.told("walker at 0"), x -> {
                x.turn(0, other);
                long got = x.loop(0);
                x.turn(0, 0);
                return got;
            }, Due.STATE);
        }
        Twins.refuses("awake", () -> {
            SleepWard x = Due.told("walker at 0");
            x.wake(0, true);
            return x;
        }, x -> x.loop(0), Due.STATE);
        Twins.refuses("in the river", () -> Due.told("walker at 0;river 0"), x -> x.loop(0), Due.STATE);
        Twins.refuses("in the river, shut in", Settings::full, x -> x.loop(0), Due.STATE);
    }

    /** Promise 29, "(1 to 500)". */
    private static void loopsOfOneMinuteAndOfMany() {
        Twins.keeps("shut in", () -> Due.told("walker at 24 way 3;shut 24 23;shut 24 19"), x -> x.loop(0), 1);
        Twins.keeps("to and fro", () -> Due.told("walker at 24 way 1;shut 23 22;shut 23 18;shut 24 19"), x -> x.loop(0),
            2);
        Twins.keeps("round four", () -> Due.told("walker at 7 way 1;shut 7 8;shut 12 17;shut 11 10;shut 6 1"),
            x -> x.loop(0), 4);
        Twins.keeps("round the ward", () -> Due.told("walker at 0"), x -> x.loop(0), 16);
        // the place again, but with another way, is no loop: forth and back through one square
        SleepWard x = Due.told("walker at 2 way 1;shut 0 5;shut 1 6;shut 2 7;shut 3 8;shut 4 9");
        Due.is("the place again in four", x.on(0, 4), 2);
        Due.is("with its way in eight", x.loop(0), 8);
    }

    /** Promise 29 asks of the doors and the river as they are, not as they were when something went ON. */
    private static void loopsOfWhatThereIs() {
        SleepWard x = Due.told("walker at 0");
        x.on(0, 1);
        x.door(0, 1, false);
        Due.is("down and up again", x.loop(0), 8);
        x.door(0, 5, false);
        Due.is("shut in", x.loop(0), 1);
        x.door(0, 1, true);
        x.door(1, 2, false);
        x.door(1, 6, false);
        x.set(0, 3, 3);
        Due.is("to and fro", x.loop(0), 2);
        x.mark(1, 1, true);
        Due.is("into the river", x.loop(0), Due.NONE);
        x.mark(1, 1, false);
        x.set(0, 2, 1);
        x.set(0, 3, 1);
        Due.is("to and fro", x.loop(0), 2);
    }

    /** Promise 29, "NONE": its way never comes again, or the river holds it, even beside its place. */
    private static void loopsThatNeverCloseAndTheRiver() {
        Twins.refuses("its way never again", () -> Due.told("walker at 0 way 1"), x -> x.loop(0), Due.NONE);
        Twins.refuses("its place never again", () -> Due.told("walker at 12"), x -> x.loop(0), Due.NONE);
        Twins.refuses("the river in one minute", () -> Due.told("walker at 0;river 1"), x -> x.loop(0), Due.NONE);
        Twins.refuses("the river in the last", () -> Due.told("walker at 0;river 5"), x -> x.loop(0), Due.NONE);
    }

    /** Promise 29 asks nothing of MINUTE. */
    private static void loopsNeedNoMinutesLeft() {
        Twins.keeps("at 9999", () -> {
            SleepWard x = Settings.atMinute(new SleepWard(), 9999);
            x.walker(0, 0, 0);
            return x;
        }, x -> x.loop(0), 16);
    }

    /** Promise 29, "nobody wakes it": neither where the watcher stays, nor on its rounds. */
    private static void nobodyWakesOneInALoop() {
        for (int square = 0; square < 25; square++) {
            SleepWard x = Due.told("walker at 0");
            x.round(square);
            x.minutes(1);
            x.bed();
            x.set(0, 3, 0);
            Due.is("the watcher at " + square, x.loop(0), 16);
        }
    }

    /** Promise 30, "0 to 15". */
    private static void oddsAreZeroToFifteen() {
        for (int n : Settings.outside(0, 15)) {
            Twins.refuses("odds(4, 5, " + n + ")", Settings::rich, x -> x.odds(4, 5, n), Due.BEYOND);
        }
        Twins.keeps("in none, here", Settings::rich, x -> x.odds(4, 5, 0), 1);
        Twins.keeps("in none, elsewhere", Settings::rich, x -> x.odds(4, 6, 0), 0);
        Twins.keeps("in fifteen, shut in", () -> Due.told("wanderer at 0;shut 0 1;shut 0 5"), x -> x.odds(0, 0, 15),
            ALL_PARTS);
    }

    /** Promise 30, "BEYOND", ahead of STATE. */
    private static void oddsOfNoWalkerOrSquare() {
        Twins.refusesWalkers("odds", (x, walker) -> x.odds(walker, 0, 0));
        for (int square : Settings.outside(0, 24)) {
            Twins.refuses("odds(4, " + square + ", 1)", Settings::rich, x -> x.odds(4, square, 1), Due.BEYOND);
            Twins.refuses("odds(0, " + square + ", 1)", Settings::rich, x -> x.odds(0, square, 1), Due.BEYOND);
        }
        Twins.refuses("n ahead of kind", Settings::rich, x -> x.odds(0, 0, 16), Due.BEYOND);
        Twins.refuses("n ahead of kind", Settings::rich, x -> x.odds(0, 0, -1), Due.BEYOND);
    }

    /** Promise 30, "STATE: it is none". */
    private static void oddsOfOneThatDoesNotWander() {
        for (int walker : new int[] {0, 1, 2, 3, 5}) {
            Twins.refuses("odds of kind " + walker, Settings::rich, x -> x.odds(walker, 24, 15), Due.STATE);
        }
        SleepWard x = Settings.rich();
        x.turn(5, 4);
        Due.is("he wanders now", x.odds(5, x.of(5, 2), 0), 1);
    }

    /** Section 2, "in each WAY in which it MAY with like odds", in parts of twelve. */
    private static void oddsOfOneToFourWays() {
        int[] beside = {7, 13, 17, 11};
        SleepWard x = Due.told("wanderer at 12");
        for (int ways = 4; ways >= 1; ways--) {
            for (int way = 0; way < 4; way++) {
                Due.is("of " + ways, x.odds(0, beside[way], 1), way < ways ? 12 / ways : 0);
            }
            Due.is("not here", x.odds(0, 12, 1), 0);
            x.door(12, beside[ways - 1], false);
        }
        Due.is("of none", x.odds(0, 12, 1), 12);
        Due.is("of none, in fifteen", x.odds(0, 12, 15), ALL_PARTS);
    }

    /** Section 2, "it stays, if in none, or if it is in the RIVER"; "nobody is woken". */
    private static void oddsOfOneThatIsHeld() {
        SleepWard x = Due.told("wanderer at 24;river 24");
        Due.is("in the river now", x.odds(0, 24, 15), ALL_PARTS);
        x.mark(24, 1, false);
        x.mark(23, 1, true);
        x.mark(19, 1, true);
        Due.is("in the river in a minute", x.odds(0, 24, 1), 0);
        Due.is("half of it here", x.odds(0, 23, 15), ALL_PARTS / 2);
        Due.is("half of it there", x.odds(0, 19, 15), ALL_PARTS / 2);
        // the watcher stands at 0
        SleepWard y = Due.told("wanderer at 0;shut 0 5;shut 1 2;shut 1 6");
        Due.is("at the watcher's", y.odds(0, 0, 14), ALL_PARTS / 12);
        Due.is("and off again", y.odds(0, 1, 15), ALL_PARTS);
        Settings.atMinute(y, 9999);
        Due.is("in the last minute", y.odds(0, y.of(0, 2), 0), 1);
        Due.is("in the last minute", y.odds(0, 1 - y.of(0, 2), 15), ALL_PARTS);
    }

    /** Section 2, "odds of whole parts of 12 to the n". */
    private static void allOddsAreAllParts() {
        long parts = 1;
        SleepWard x = Due.told("wanderer at 7;river 4;river 20;shut 12 13;shut 6 7");
        for (int n = 0; n <= 15; n++) {
            long all = 0;
            for (int square = 0; square < 25; square++) {
                all += x.odds(0, square, n);
            }
            Due.is("all parts of " + n, all, parts);
            parts *= 12;
        }
    }

    /** Promise 31, "0 to 15". */
    private static void likeliestIsZeroToFifteen() {
        for (int n : Settings.outside(0, 15)) {
            Twins.refuses("likeliest(4, " + n + ")", Settings::rich, x -> x.likeliest(4, n), Due.BEYOND);
            Twins.refuses("likeliest(0, " + n + ")", Settings::rich, x -> x.likeliest(0, n), Due.BEYOND);
        }
        Twins.keeps("in none", Settings::rich, x -> x.likeliest(4, 0), 5);
        Twins.keeps("in fifteen", () -> Due.told("wanderer at 24;river 24"), x -> x.likeliest(0, 15), 24);
    }

    /** Promise 31, "BEYOND". */
    private static void likeliestOfNoWalker() {
        Twins.refusesWalkers("likeliest", (x, walker) -> x.likeliest(walker, 0));
    }

    /** Promise 31, "STATE: it is none". */
    private static void likeliestOfOneThatDoesNotWander() {
        for (int walker : new int[] {0, 1, 2, 3, 5}) {
            Twins.refuses("likeliest of kind " + walker, Settings::rich, x -> x.likeliest(walker, 15), Due.STATE);
        }
    }

    /** Promise 31, "The SQUARE", "of several the least": 0 and 24 as well. */
    private static void likeliestInTheFirstAndTheLastSquare() {
        Due.is("the first", Due.told("wanderer at 1;shut 1 2;shut 1 6").likeliest(0, 1), 0);
        Due.is("the last", Due.told("wanderer at 23;shut 23 22;shut 23 18").likeliest(0, 1), 24);
        Due.is("the least of two", Due.told("wanderer at 24").likeliest(0, 1), 19);
        Due.is("the least of two", Due.told("wanderer at 0").likeliest(0, 1), 1);
        Due.is("the least of four", Due.told("wanderer at 12").likeliest(0, 1), 7);
        SleepWard x = Due.told("wanderer at 12;river 17;river 13");
        Due.is("one that holds, of two", x.likeliest(0, 15), 13);
    }
}
