/** The edges of promises 10 to 16 and of STEP, a method for each sentence that names one. */
public final class WalkersEdgesTest {
    public static void main(String[] args) {
        walkerOfNoKindSquareOrWay();
        walkersAreEightAtMost();
        walkerIsBeyondAheadOfFull();
        aNewWalkerIsAtHomeAndAsleep();
        ofNoWalker();
        ofHasSixParts();
        waysAreASet();
        setHasThreeParts();
        setToNoSquareOrWay();
        setOfNoWalker();
        setChangesOnePart();
        wakeOfNoWalker();
        wakeIsNewOrNot();
        turnOfNoWalkerOrToNoKind();
        turnToEachKind();
        asIsBeyondAheadOfKind();
        asOfEachKind();
        stepOfNoWalker();
        stepChangesNothing();
        stepIsByKindAlone();
        waysWrapAround();
        noWayIsNoStep();
        slopesMustBeLess();
        slopesOfLikeHeightGoByTheLeastWay();
        slopesBehindDoorsLeadNobody();
        lampsAreSoughtFromTheOwnWayOn();
        lampsBehindDoorsAndEdgesDrawNobody();
        homersStayAtHomeButInMinuteZero();
        wanderersDrawByHowManyWaysThereAre();
        drawsGoRound();
        moonersStopAtSixtyTimesMoon();
        Due.end();
    }

    /** Section 1, KINDS 0 to 5, SQUARES 0 to 24, WAYS 0 to 3; promise 10, "BEYOND: kind, square, way". */
    private static void walkerOfNoKindSquareOrWay() {
        for (int kind : Settings.outside(0, 5)) {
            Twins.refuses("walker(" + kind + ", 0, 0)", Settings::rich, x -> x.walker(kind, 0, 0), Due.BEYOND);
        }
        for (int square : Settings.outside(0, 24)) {
            Twins.refuses("walker(0, " + square + ", 0)", Settings::rich, x -> x.walker(0, square, 0), Due.BEYOND);
        }
        for (int way : Settings.outside(0, 3)) {
            Twins.refuses("walker(0, 0, " + way + ")", Settings::rich, x -> x.walker(0, 0, way), Due.BEYOND);
        }
        SleepWard x = new SleepWard();
        Due.is("the least of all", x.walker(0, 0, 0), 0);
        Due.is("the most of all", x.walker(5, 24, 3), 1);
    }

    /** Section 1, "WALKERS 0, 1, .. (at most 8)"; promise 10, "its number", "FULL". */
    private static void walkersAreEightAtMost() {
        SleepWard x = new SleepWard();
        for (int i = 0; i < 8; i++) {
            Due.is("its number", x.walker(5 - i % 6, 24 - i, 3 - i % 4), i);
        }
        Due.is("a 9th", x.walker(0, 0, 0), Due.FULL);
        Due.is("eight yet", x.count(0), 8);
        Twins.refuses("a 9th", Settings::full, y -> y.walker(5, 24, 3), Due.FULL);
        // who is awake or in the river is a walker yet
        SleepWard y = Settings.full();
        y.wake(7, true);
        Due.is("a 9th", y.walker(0, 0, 0), Due.FULL);
    }

    /** Promise 10, "BEYOND: kind, square, way. FULL.": in this order. */
    private static void walkerIsBeyondAheadOfFull() {
        Twins.refuses("a 9th of no kind", Settings::full, x -> x.walker(6, 0, 0), Due.BEYOND);
        Twins.refuses("a 9th in no square", Settings::full, x -> x.walker(0, 25, 0), Due.BEYOND);
        Twins.refuses("a 9th in no way", Settings::full, x -> x.walker(0, 0, 4), Due.BEYOND);
    }

    /** Promise 10, "A new WALKER (HOME its PLACE)". */
    private static void aNewWalkerIsAtHomeAndAsleep() {
        Twins.changes("walker(5, 24, 3)", Settings::rich, x -> x.walker(5, 24, 3), 6, "walkers", "kind 6", "home 6",
            "place 6", "way 6", "awake 6");
        // not what one had been that an undo took away
        SleepWard x = new SleepWard();
        x.image();
        x.walker(3, 9, 1);
        x.set(0, 1, 4);
        x.wake(0, true);
        x.undo();
        Due.is("the first again", x.walker(2, 17, 2), 0);
        int[] want = {2, 17, 17, 2, 0, 15};
        for (int what = 0; what < 6; what++) {
            Due.is("part " + what, x.of(0, what), want[what]);
        }
        // the watcher at its square doesn't wake it before a minute goes
        SleepWard y = new SleepWard();
        y.walker(5, 0, 0);
        Due.is("asleep", y.of(0, 4), 0);
        y.minutes(1);
        Due.is("woken", y.of(0, 4), 1);
    }

    /** Promise 11, "BEYOND": there are WALKERS 0 to one less than how many. */
    private static void ofNoWalker() {
        for (int what = 0; what < 6; what++) {
            int part = what;
            Twins.refusesWalkers("of part " + part, (x, walker) -> x.of(walker, part));
        }
        Twins.keeps("the last of six", Settings::rich, x -> x.of(5, 0), 5);
        Twins.keeps("the last of eight", Settings::full, x -> x.of(7, 2), 21);
    }

    /** Promise 11, what 0 to 5. */
    private static void ofHasSixParts() {
        for (int what : Settings.outside(0, 5)) {
            Twins.refuses("of(0, " + what + ")", Settings::rich, x -> x.of(0, what), Due.BEYOND);
        }
        int[] want = {1, 8, 24, 3, 1, 9};
        for (int what = 0; what < 6; what++) {
            int part = what;
            Twins.keeps("of(1, " + what + ")", Settings::rich, x -> x.of(1, part), want[part]);
        }
        Twins.keeps("asleep", Settings::rich, x -> x.of(0, 4), 0);
    }

    /** Promise 11, "WAYS in which it MAY, as a set": at each edge and corner, with all doors open, and with none. */
    private static void waysAreASet() {
        SleepWard x = new SleepWard();
        x.walker(0, 0, 0);
        SleepWard y = Settings.full();
        for (int square = 0; square < 25; square++) {
            int want = (square > 4 ? 1 : 0) + (square % 5 < 4 ? 2 : 0) + (square < 20 ? 4 : 0) + (square % 5 > 0 ? 8 : 0);
            x.set(0, 2, square);
            y.set(0, 2, square);
            Due.is("ways from " + square, x.of(0, 5), want);
            Due.is("no way from " + square, y.of(0, 5), 0);
        }
    }

    /** Promise 12, what 1 to 3. */
    private static void setHasThreeParts() {
        for (int what : Settings.outside(1, 3)) {
            Twins.refuses("set(0, " + what + ", 1)", Settings::rich, x -> x.set(0, what, 1), Due.BEYOND);
        }
    }

    /** Promise 12: HOME and PLACE are 0 to 24, WAY 0 to 3. */
    private static void setToNoSquareOrWay() {
        for (int what = 1; what <= 3; what++) {
            int part = what;
            int most = part == 3 ? 3 : 24;
            for (int v : Settings.outside(0, most)) {
                Twins.refuses("set(0, " + what + ", " + v + ")", Settings::rich, x -> x.set(0, part, v), Due.BEYOND);
            }
            SleepWard x = Settings.rich();
            x.set(0, part, 1);
            Due.is("the most", x.set(0, part, most), 1);
            Due.is("the least", x.set(0, part, 0), most);
            Due.is("it is", x.of(0, part), 0);
        }
    }

    /** Promise 12: no such WALKER. */
    private static void setOfNoWalker() {
        for (int what = 1; what <= 3; what++) {
            int part = what;
            Twins.refusesWalkers("set part " + part, (x, walker) -> x.set(walker, part, 0));
        }
    }

    /** Promise 12: that part of that WALKER, and nothing else; its PLACE may be behind shut DOORS. */
    private static void setChangesOnePart() {
        Twins.changes("home", Settings::rich, x -> x.set(5, 1, 19), 2, "home 5");
        Twins.changes("place", Settings::rich, x -> x.set(1, 2, 19), 24, "place 1");
        Twins.changes("way", Settings::rich, x -> x.set(1, 3, 2), 3, "way 1");
        Twins.changes("place, shut in", Settings::full, x -> x.set(7, 2, 0), 21, "place 7");
        Twins.keeps("as it was", Settings::rich, x -> x.set(1, 2, 24), 24);
    }

    /** Promise 13: no such WALKER. */
    private static void wakeOfNoWalker() {
        Twins.refusesWalkers("wake", (x, walker) -> x.wake(walker, true));
        Twins.refusesWalkers("sleep", (x, walker) -> x.wake(walker, false));
    }

    /** Promise 13, "1 if that is new, else 0". */
    private static void wakeIsNewOrNot() {
        Twins.changes("woken", Settings::rich, x -> x.wake(0, true), 1, "awake 0");
        Twins.keeps("woken yet", Settings::rich, x -> x.wake(2, true), 0);
        Twins.changes("sleeps again", Settings::rich, x -> x.wake(2, false), 1, "awake 2");
        Twins.keeps("sleeps yet", Settings::rich, x -> x.wake(0, false), 0);
        Twins.changes("woken in the river", Settings::full, x -> x.wake(7, true), 1, "awake 7");
    }

    /** Promise 14, "BEYOND". */
    private static void turnOfNoWalkerOrToNoKind() {
        Twins.refusesWalkers("turn", (x, walker) -> x.turn(walker, 0));
        for (int kind : Settings.outside(0, 5)) {
            Twins.refuses("turn(0, " + kind + ")", Settings::rich, x -> x.turn(0, kind), Due.BEYOND);
        }
    }

    /** Promise 14, "what it was". */
    private static void turnToEachKind() {
        for (int kind = 0; kind < 6; kind++) {
            int to = kind;
            if (to == 1) {
                Twins.keeps("turn to its own", Settings::rich, x -> x.turn(1, to), 1);
            } else {
                Twins.changes("turn to " + to, Settings::rich, x -> x.turn(1, to), 1, "kind 1");
            }
        }
    }

    /** Promise 15, "BEYOND: no such WALKER, kind. KIND": in this order. */
    private static void asIsBeyondAheadOfKind() {
        for (int kind = 0; kind < 6; kind++) {
            int as = kind;
            Twins.refusesWalkers("as " + as, (x, walker) -> x.as(walker, as));
        }
        for (int kind : Settings.outside(0, 5)) {
            Twins.refuses("as(0, " + kind + ")", Settings::rich, x -> x.as(0, kind), Due.BEYOND);
            Twins.refuses("as(5, " + kind + ")", Settings::rich, x -> x.as(5, kind), Due.BEYOND);
        }
    }

    /** Promise 15, "KIND: it isn't of that kind, nor of one under it": two levels down, never up or aside. */
    private static void asOfEachKind() {
        boolean[][] is = {
            {true, false, false, false, false, false},
            {true, true, false, false, false, false},
            {true, false, true, false, false, false},
            {true, true, false, true, false, false},
            {true, false, false, false, true, false},
            {true, false, true, false, false, true}};
        for (int kind = 0; kind < 6; kind++) {
            for (int as = 0; as < 6; as++) {
                int one = kind;
                int other = as;
                String call = "one of kind " + kind + " as one of " + as;
                if (is[kind][as]) {
                    Twins.keeps(call, () -> ofKind(one), x -> x.as(0, other), 19);
                } else {
                    Twins.refuses(call, () -> ofKind(one), x -> x.as(0, other), Due.KIND);
                }
            }
        }
        SleepWard x = ofKind(3);
        Due.is("a homer is a sloper", x.as(0, 1), 19);
        x.turn(0, 5);
        Due.is("a mooner is none", x.as(0, 1), Due.KIND);
        Due.is("but a lamper", x.as(0, 2), 19);
    }

    private static SleepWard ofKind(int kind) {
        SleepWard x = new SleepWard();
        x.walker(kind, 18, 0);
        x.set(0, 2, 19);
        return x;
    }

    /** Promise 16, "BEYOND". */
    private static void stepOfNoWalker() {
        Twins.refusesWalkers("step", (x, walker) -> x.step(walker));
    }

    /** Promise 16, "z stays as it is": nor does anything else change. */
    private static void stepChangesNothing() {
        SleepWard x = Settings.rich();
        for (int walker = 0; walker < 6; walker++) {
            int one = walker;
            Twins.keeps("step " + walker, Settings::rich, y -> y.step(one), x.step(one));
        }
        for (int i = 0; i < 3; i++) {
            Due.is("the same draw again", x.step(4), x.step(4));
        }
    }

    /** Promise 16, "AWAKE or in the RIVER, too; -1: none". */
    private static void stepIsByKindAlone() {
        for (int kind = 0; kind < 6; kind++) {
            SleepWard x = ofKind(kind);
            int step = x.step(0);
            x.wake(0, true);
            Due.is("awake", x.step(0), step);
            x.mark(19, 1, true);
            Due.is("awake and in the river", x.step(0), step);
            x.wake(0, false);
            Due.is("in the river", x.step(0), step);
        }
        Due.is("none is no finding", ofKind(5).step(0), -1);
        SleepWard x = ofKind(5);
        x.step(0);
        Due.is("nor is it counted", x.status(-1), 0);
    }

    /** Section 1, WALKER: "its WAY, if it MAY; else .. (1 more, 2 more, 3 more, by 4 the rest)". */
    private static void waysWrapAround() {
        int[] beside = {7, 13, 17, 11};
        for (int way = 0; way < 4; way++) {
            SleepWard x = new SleepWard();
            x.walker(0, 12, way);
            for (int more = 0; more < 4; more++) {
                Due.is("from " + way + ", " + more + " more", x.step(0), (way + more) % 4);
                x.door(12, beside[(way + more) % 4], false);
            }
            Due.is("none", x.step(0), -1);
        }
    }

    /** Section 1, "none, if in none", for each kind. */
    private static void noWayIsNoStep() {
        for (int kind = 0; kind < 6; kind++) {
            SleepWard x = new SleepWard();
            x.walker(kind, 24, 0);
            x.moon(4);
            x.mark(23, 0, true);
            x.height(19, 0);
            x.door(24, 23, false);
            x.door(24, 19, false);
            Due.is("no step", x.step(0), -1);
            x.minutes(1);
            Due.is("it stays", x.of(0, 2), 24);
            Due.is("its way, too", x.of(0, 3), 0);
            Due.is("no draw", x.count(6), 1);
        }
    }

    /** Section 1, SLOPER: "whose HEIGHT is less than here": not as high; from 1 to 0 yet, from 0 to none. */
    private static void slopesMustBeLess() {
        SleepWard x = new SleepWard();
        x.walker(1, 12, 0);
        x.height(12, 1);
        x.height(17, 1);
        Due.is("as high: as a walker", x.step(0), 0);
        x.height(17, 0);
        Due.is("one less", x.step(0), 2);
        x.height(12, 0);
        Due.is("as low as can be: as a walker", x.step(0), 0);
        x.height(12, 9);
        x.height(17, 9);
        x.height(7, 9);
        x.height(13, 9);
        x.height(11, 8);
        Due.is("from 9 to 8", x.step(0), 3);
    }

    /** Section 1, SLOPER: "that with the least HEIGHT, of several the least WAY", not from its own on. */
    private static void slopesOfLikeHeightGoByTheLeastWay() {
        int[] beside = {7, 13, 17, 11};
        for (int way = 0; way < 4; way++) {
            SleepWard x = new SleepWard();
            x.walker(1, 12, way);
            for (int last = 3; last >= 0; last--) {
                x.height(beside[last], 4);
                Due.is("the least way", x.step(0), last);
            }
            x.height(beside[3], 3);
            Due.is("the least height", x.step(0), 3);
        }
    }

    /** Section 1, SLOPER: "of the WAYS in which it MAY". */
    private static void slopesBehindDoorsLeadNobody() {
        SleepWard x = new SleepWard();
        x.walker(1, 4, 3);
        x.height(5, 0);
        Due.is("5 is not beside 4", x.step(0), 3);
        x.height(9, 3);
        x.height(3, 4);
        Due.is("down", x.step(0), 2);
        x.door(4, 9, false);
        Due.is("the next lowest", x.step(0), 3);
        x.door(4, 3, false);
        Due.is("none", x.step(0), -1);
    }

    /** Section 1, LAMPER: "the first WAY, from its own on (likewise)". */
    private static void lampsAreSoughtFromTheOwnWayOn() {
        int[] beside = {7, 13, 17, 11};
        for (int way = 0; way < 4; way++) {
            SleepWard x = new SleepWard();
            x.walker(2, 12, way);
            x.mark(12, 0, true);
            Due.is("the lamp here draws nobody", x.step(0), way);
            for (int more = 3; more >= 0; more--) {
                x.mark(beside[(way + more) % 4], 0, true);
                Due.is("from " + way + ", " + more + " more", x.step(0), (way + more) % 4);
            }
        }
    }

    /** Section 1, LAMPER: "in which it MAY and a LAMP stands in that SQUARE"; "if there is none, as a WALKER". */
    private static void lampsBehindDoorsAndEdgesDrawNobody() {
        SleepWard x = new SleepWard();
        x.walker(2, 4, 1);
        x.mark(5, 0, true);
        Due.is("5 is not beside 4", x.step(0), 2);
        x.mark(3, 0, true);
        Due.is("a lamp", x.step(0), 3);
        x.door(3, 4, false);
        Due.is("behind a door", x.step(0), 2);
        x.mark(14, 0, true);
        Due.is("two squares away", x.step(0), 2);
        x.door(4, 9, false);
        Due.is("none", x.step(0), -1);
    }

    /** Section 1, HOMER: "none, if its PLACE is its HOME and MINUTE isn't 0". */
    private static void homersStayAtHomeButInMinuteZero() {
        SleepWard x = new SleepWard();
        x.walker(3, 12, 1);
        x.wake(0, true);
        Due.is("in minute 0", x.step(0), 1);
        x.minutes(1);
        Due.is("in minute 1", x.step(0), -1);
        x.set(0, 1, 13);
        Due.is("another home", x.step(0), 1);
        x.set(0, 2, 13);
        Due.is("there", x.step(0), -1);
        Settings.atMinute(x, 9999);
        Due.is("in minute 9999", x.step(0), -1);
        x.bed();
        Due.is("in minute 0 again", x.step(0), 1);
    }

    /** Section 1, WANDERER: "the one whose number (from 0, by WAYS) is the rest of a draw by how many there are". */
    private static void wanderersDrawByHowManyWaysThereAre() {
        int[] beside = {7, 13, 17, 11};
        for (int ways = 1; ways < 16; ways++) {
            SleepWard x = new SleepWard();
            x.walker(4, 12, 2);
            for (int way = 0; way < 4; way++) {
                x.door(12, beside[way], (ways >> way & 1) != 0);
            }
            for (int seed = -6; seed < 7; seed++) {
                x.seed(seed * 123456789);
                int number = (seed * 123456789 * 1103515245 + 12345 >>> 8) % Integer.bitCount(ways);
                int want = -1;
                for (int way = 0; way < 4 && want < 0; way++) {
                    if ((ways >> way & 1) != 0 && number-- == 0) {
                        want = way;
                    }
                }
                Due.is("ways " + ways, x.step(0), want);
            }
        }
    }

    /** Section 1, "an int that goes round", "gives z >>> 8": z below 0 as well. */
    private static void drawsGoRound() {
        SleepWard x = new SleepWard();
        x.walker(4, 12, 0);
        int[] seeds = {0, 1, -1, 2, Integer.MAX_VALUE, Integer.MIN_VALUE, 1103515245, -1103515245};
        int[] beside = {7, 13, 17, 11};
        for (int seed : seeds) {
            long z = (seed * 1103515245L + 12345L) & 0xffffffffL;
            x.set(0, 2, 12);
            x.seed(seed);
            x.minutes(1);
            Due.is("z", x.count(6), (int) z);
            Due.is("where it went", x.of(0, 2), beside[(int) ((z >> 8) % 4)]);
            // of three ways, the rest of a number below 0 would be another
            x.set(0, 2, 10);
            x.seed(seed);
            x.minutes(1);
            Due.is("of three", x.of(0, 2), new int[] {5, 11, 15}[(int) ((z >> 8) % 3)]);
            Due.is("asleep", x.of(0, 4), 0);
        }
    }

    /** Section 1, MOONER: "as a WALKER if MINUTE is less than 60 times MOON, and none if it is not". */
    private static void moonersStopAtSixtyTimesMoon() {
        for (int moon = 0; moon <= 4; moon++) {
            SleepWard x = new SleepWard();
            x.walker(5, 12, 1);
            x.mark(11, 0, true);
            x.wake(0, true);
            x.moon(moon);
            int last = moon == 4 ? 240 : 60 * moon;
            if (last > 0) {
                Settings.atMinute(x, last - 1);
                Due.is("moon " + moon + ", the last minute", x.step(0), moon == 4 ? 3 : 1);
                x.minutes(1);
            }
            Due.is("moon " + moon + ", the first one after", x.step(0), moon == 4 ? 3 : -1);
            Settings.atMinute(x, 9999);
            Due.is("moon " + moon + ", in minute 9999", x.step(0), moon == 4 ? 3 : -1);
            x.moon(4);
            x.mark(11, 0, false);
            Due.is("in the dark, as a walker", x.step(0), 1);
        }
    }
}
