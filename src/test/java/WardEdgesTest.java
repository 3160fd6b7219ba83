/** The edges of promises 1 to 9, a method for each sentence that names one. */
public final class WardEdgesTest {
    public static void main(String[] args) {
        newObjectsShareNothing();
        doorsAreBetweenSquaresBeside();
        rowsDoNotWrapAround();
        doorOfNoSquare();
        doorIsNewOrNot();
        eachDoorIsItsOwn();
        isOpenChangesNothing();
        heightsAreZeroToNine();
        heightOfNoSquare();
        markIsLampOrRiver();
        markOfNoSquare();
        markIsNewOrNot();
        eachSquareHasItsOwnMarks();
        squareOfHasFourParts();
        squareOfNoSquare();
        walkersThereAreASet();
        moonIsZeroToFour();
        roundOfNoSquare();
        roundsAreTwelveAtMost();
        roundIsBeyondAheadOfFull();
        roundsWrapAround();
        roundsThatWereEmptyBeginAtTheFirst();
        restOfNoneAndOfTwelve();
        Due.end();
    }

    /** Promise 1: what one object has is not in the next. */
    private static void newObjectsShareNothing() {
        Settings.full();
        Settings.rich(9999);
        SleepWard x = new SleepWard();
        for (int square = 0; square < 25; square++) {
            Due.is("new height", x.squareOf(square, 0), 5);
            Due.is("new lamp", x.squareOf(square, 1), 0);
            Due.is("new river", x.squareOf(square, 2), 0);
            for (int other = 0; other < 25; other++) {
                boolean beside = Math.abs(square / 5 - other / 5) + Math.abs(square % 5 - other % 5) == 1;
                if (beside && other > square) {
                    Due.is("new door", x.isOpen(square, other), 1);
                }
            }
        }
        int[] counts = {0, 0, 0, 0, 0, 0, 1};
        for (int what = 0; what < 7; what++) {
            Due.is("new count " + what, x.count(what), counts[what]);
        }
        for (int what = 0; what < 6; what++) {
            Due.is("new now " + what, x.now(what), 0);
        }
        for (int which = -1; which < 7; which++) {
            Due.is("new status " + which, x.status(which), 0);
        }
        for (int s = 0; s < 4; s++) {
            Due.is("new sheet", x.write(s, 0, 1), Due.MISSING);
        }
        Due.is("the tape is empty: its text ends at 0", x.ward(), -1);
        Due.is("no image is kept", x.undo(), Due.NONE);
        Due.is("no image is kept", x.tear(), 0);
        x.minutes(1);
        Due.is("no rounds: the watcher stays at 0", x.now(2), 0);
    }

    /** Promises 2 and 3, "BEYOND: they aren't BESIDE": a square itself, over a corner, two away. */
    private static void doorsAreBetweenSquaresBeside() {
        int[][] apart = {{12, 12}, {0, 0}, {24, 24}, {12, 6}, {12, 8}, {12, 16}, {12, 18}, {12, 2}, {12, 10}, {12, 14},
            {12, 22}, {0, 24}, {24, 0}};
        for (int[] two : apart) {
            refusesDoor(two[0], two[1]);
        }
    }

    /** Section 1: COLUMN and ROW are 0 to 4 each, so that nothing is beside over an edge. */
    private static void rowsDoNotWrapAround() {
        int[][] apart = {{4, 5}, {5, 4}, {9, 10}, {14, 15}, {19, 20}, {20, 19}, {0, 20}, {20, 0}, {4, 24}, {24, 4},
            {0, 4}, {4, 0}, {20, 24}, {24, 20}};
        for (int[] two : apart) {
            refusesDoor(two[0], two[1]);
        }
        SleepWard x = new SleepWard();
        for (int edge : new int[] {3, 8, 13, 18, 23}) {
            Due.is("the last door of a row", x.door(edge, edge + 1, false), 1);
        }
        for (int edge : new int[] {15, 16, 17, 18, 19}) {
            Due.is("the last door of a column", x.door(edge + 5, edge, false), 1);
        }
    }

    /** Promises 2 and 3: SQUARES are 0 to 24. */
    private static void doorOfNoSquare() {
        int[][] apart = {{-1, 0}, {0, -1}, {-1, 4}, {4, -1}, {-5, 0}, {0, -5}, {24, 25}, {25, 24}, {24, 29}, {29, 24},
            {20, 25}, {25, 20}, {25, 26}, {-2, -1}, {-6, -1}, {25, 30}, {Integer.MAX_VALUE, Integer.MIN_VALUE},
            {Integer.MIN_VALUE, Integer.MAX_VALUE}, {Integer.MAX_VALUE, Integer.MAX_VALUE - 1},
            {Integer.MIN_VALUE, Integer.MIN_VALUE + 5}, {0, Integer.MIN_VALUE}, {Integer.MAX_VALUE, 24}};
        for (int[] two : apart) {
            refusesDoor(two[0], two[1]);
        }
    }

    private static void refusesDoor(int one, int other) {
        String two = one + ", " + other;
        Twins.refuses("door(" + two + ", false)", Settings::rich, x -> x.door(one, other, false), Due.BEYOND);
        Twins.refuses("door(" + two + ", true)", Settings::full, x -> x.door(one, other, true), Due.BEYOND);
        Twins.refuses("isOpen(" + two + ")", Settings::rich, x -> x.isOpen(one, other), Due.BEYOND);
    }

    /** Promise 2, "1 if that is new, else 0", from either side. */
    private static void doorIsNewOrNot() {
        SleepWard x = new SleepWard();
        int[][] doors = {{0, 1}, {0, 5}, {23, 24}, {19, 24}};
        for (int[] door : doors) {
            Due.is("open yet", x.door(door[0], door[1], true), 0);
            Due.is("shut", x.door(door[0], door[1], false), 1);
            Due.is("shut yet", x.door(door[1], door[0], false), 0);
            Due.is("is shut", x.isOpen(door[1], door[0]), 0);
            Due.is("open", x.door(door[1], door[0], true), 1);
            Due.is("open yet", x.door(door[0], door[1], true), 0);
            Due.is("is open", x.isOpen(door[0], door[1]), 1);
        }
    }

    /** Promise 2: that door becomes so, and no other one. */
    private static void eachDoorIsItsOwn() {
        for (int square = 0; square < 25; square++) {
            int one = square;
            if (square % 5 < 4) {
                Twins.changes("shut to the right of " + one, SleepWard::new, x -> x.door(one, one + 1, false), 1,
                    "door " + one + " " + (one + 1));
                Twins.changes("open to the right of " + one, Settings::full, x -> x.door(one + 1, one, true), 1,
                    "door " + one + " " + (one + 1));
            }
            if (square < 20) {
                Twins.changes("shut below " + one, SleepWard::new, x -> x.door(one + 5, one, false), 1,
                    "door " + one + " " + (one + 5));
                Twins.changes("open below " + one, Settings::full, x -> x.door(one, one + 5, true), 1,
                    "door " + one + " " + (one + 5));
            }
        }
        Twins.keeps("shut yet", Settings::full, x -> x.door(3, 4, false), 0);
        Twins.keeps("open yet", Settings::rich, x -> x.door(3, 4, true), 0);
    }

    /** Promise 3 looks alone. */
    private static void isOpenChangesNothing() {
        Twins.keeps("open", Settings::rich, x -> x.isOpen(24, 23), 1);
        Twins.keeps("shut", Settings::rich, x -> x.isOpen(7, 6), 0);
    }

    /** Section 1, "HEIGHT of a SQUARE: 0 to 9 (5 at first)"; promise 4, "what it was. BEYOND". */
    private static void heightsAreZeroToNine() {
        for (int square : new int[] {0, 24}) {
            SleepWard x = new SleepWard();
            int was = 5;
            for (int v = 0; v <= 9; v++) {
                Due.is("height " + v, x.height(square, v), was);
                Due.is("height is " + v, x.squareOf(square, 0), v);
                was = v;
            }
            for (int v : Settings.outside(0, 9)) {
                Twins.refuses("height(" + square + ", " + v + ")", Settings::rich, y -> y.height(square, v), Due.BEYOND);
            }
            Twins.changes("height", Settings::rich, y -> y.height(square, 4), square == 0 ? 9 : 5, "height " + square);
        }
        Twins.keeps("as it was", Settings::rich, y -> y.height(3, 8), 8);
    }

    /** Promise 4: SQUARES are 0 to 24. */
    private static void heightOfNoSquare() {
        for (int square : Settings.outside(0, 24)) {
            Twins.refuses("height(" + square + ", 3)", Settings::rich, x -> x.height(square, 3), Due.BEYOND);
        }
    }

    /** Promise 5, "what 0", "(1)". */
    private static void markIsLampOrRiver() {
        for (int what : Settings.outside(0, 1)) {
            Twins.refuses("mark(3, " + what + ", true)", Settings::rich, x -> x.mark(3, what, true), Due.BEYOND);
            Twins.refuses("mark(3, " + what + ", false)", Settings::full, x -> x.mark(3, what, false), Due.BEYOND);
        }
    }

    /** Promise 5: SQUARES are 0 to 24. */
    private static void markOfNoSquare() {
        for (int square : Settings.outside(0, 24)) {
            for (int what = 0; what < 2; what++) {
                int mark = what;
                String call = "mark(" + square + ", " + mark;
                Twins.refuses(call + ", true)", Settings::rich, x -> x.mark(square, mark, true), Due.BEYOND);
                Twins.refuses(call + ", false)", Settings::full, x -> x.mark(square, mark, false), Due.BEYOND);
            }
        }
        // 32 squares on, a set of bits would begin anew
        for (int square : new int[] {31, 32, 33, 56, 57, 64, -32, -8}) {
            Twins.refuses("mark(" + square + ", 0, true)", Settings::rich, x -> x.mark(square, 0, true), Due.BEYOND);
            Twins.refuses("mark(" + square + ", 1, false)", Settings::full, x -> x.mark(square, 1, false), Due.BEYOND);
        }
    }

    /** Promise 5, "1 if that is new, else 0". */
    private static void markIsNewOrNot() {
        for (int what = 0; what < 2; what++) {
            for (int square : new int[] {0, 24}) {
                SleepWard x = new SleepWard();
                Due.is("not so yet", x.mark(square, what, false), 0);
                Due.is("is so", x.mark(square, what, true), 1);
                Due.is("is so yet", x.mark(square, what, true), 0);
                Due.is("not so", x.mark(square, what, false), 1);
                Due.is("not so yet", x.mark(square, what, false), 0);
            }
        }
    }

    /** Promise 5: that square's mark, and no other one; all 25 can have both. */
    private static void eachSquareHasItsOwnMarks() {
        String[] names = {"lamp ", "river "};
        for (int square = 0; square < 25; square++) {
            for (int what = 0; what < 2; what++) {
                int s = square;
                int mark = what;
                Twins.changes("put", SleepWard::new, x -> x.mark(s, mark, true), 1, names[mark] + s);
                Twins.changes("taken", Settings::full, x -> x.mark(s, mark, false), 1, names[mark] + s);
            }
        }
        Due.is("all lamps", Settings.full().count(2), 25);
        Due.is("all river", Settings.full().count(3), 25);
    }

    /** Promise 6, what 0 to 3. */
    private static void squareOfHasFourParts() {
        for (int what : Settings.outside(0, 3)) {
            Twins.refuses("squareOf(3, " + what + ")", Settings::rich, x -> x.squareOf(3, what), Due.BEYOND);
        }
        Twins.keeps("height", Settings::rich, x -> x.squareOf(3, 0), 8);
        Twins.keeps("lamp", Settings::rich, x -> x.squareOf(4, 1), 1);
        Twins.keeps("river", Settings::rich, x -> x.squareOf(24, 2), 1);
        Twins.keeps("walkers", Settings::rich, x -> x.squareOf(24, 3), 2);
    }

    /** Promise 6: SQUARES are 0 to 24. */
    private static void squareOfNoSquare() {
        for (int square : Settings.outside(0, 24)) {
            for (int what = 0; what < 4; what++) {
                int part = what;
                Twins.refuses("squareOf(" + square + ", " + what + ")", Settings::rich, x -> x.squareOf(square, part),
                    Due.BEYOND);
            }
        }
    }

    /** Promise 6, "WALKERS there, as a set": none, the first, the last, all eight. */
    private static void walkersThereAreASet() {
        SleepWard x = new SleepWard();
        Due.is("none", x.squareOf(0, 3), 0);
        for (int i = 0; i < 8; i++) {
            x.walker(0, 24, 0);
            Due.is("so many", x.squareOf(24, 3), (2 << i) - 1);
        }
        Due.is("none", x.squareOf(0, 3), 0);
        for (int i = 0; i < 7; i++) {
            x.set(i, 2, 0);
        }
        Due.is("the last", x.squareOf(24, 3), 128);
        Due.is("all others", x.squareOf(0, 3), 127);
    }

    /** Section 1, "MOON: 0 to 4 (0 at first)"; promise 7. */
    private static void moonIsZeroToFour() {
        SleepWard x = new SleepWard();
        int was = 0;
        for (int v : new int[] {0, 1, 2, 3, 4, 0}) {
            Due.is("moon", x.moon(v), was);
            Due.is("moon is", x.now(1), v);
            was = v;
        }
        for (int v : Settings.outside(0, 4)) {
            Twins.refuses("moon(" + v + ")", Settings::rich, y -> y.moon(v), Due.BEYOND);
        }
        Twins.changes("moon", Settings::rich, y -> y.moon(0), 3, "moon");
    }

    /** Promise 8, "BEYOND". */
    private static void roundOfNoSquare() {
        for (int square : Settings.outside(0, 24)) {
            Twins.refuses("round(" + square + ")", Settings::rich, x -> x.round(square), Due.BEYOND);
        }
        SleepWard x = new SleepWard();
        Due.is("the first square", x.round(0), 1);
        Due.is("the last square", x.round(24), 2);
    }

    /** Section 1, "a row of up to 12 SQUARES"; promise 8, "FULL". */
    private static void roundsAreTwelveAtMost() {
        SleepWard x = new SleepWard();
        for (int i = 1; i <= 12; i++) {
            Due.is("round", x.round(24 - i), i);
        }
        Due.is("a 13th", x.round(0), Due.FULL);
        Twins.refuses("a 13th", Settings::full, y -> y.round(0), Due.FULL);
        x.rest();
        Due.is("room again", x.round(0), 1);
    }

    /** Promise 8, "BEYOND. FULL.": in this order. */
    private static void roundIsBeyondAheadOfFull() {
        for (int square : Settings.outside(0, 24)) {
            Twins.refuses("a 13th at " + square, Settings::full, x -> x.round(square), Due.BEYOND);
        }
    }

    /** Section 1, "the first one behind the last": with one square, and with twelve; a new one comes behind. */
    private static void roundsWrapAround() {
        SleepWard x = new SleepWard();
        x.round(9);
        for (int i = 0; i < 3; i++) {
            x.minutes(1);
            Due.is("of one", x.now(2), 9);
        }
        for (int i = 1; i < 12; i++) {
            x.round(9 + i);
        }
        for (int i = 1; i < 26; i++) {
            x.minutes(1);
            Due.is("of twelve", x.now(2), 9 + i % 12);
        }
        // a square twice over is two of the row
        SleepWard y = new SleepWard();
        int[] row = {3, 3, 4};
        for (int square : row) {
            y.round(square);
        }
        for (int i = 0; i < 7; i++) {
            y.minutes(1);
            Due.is("twice over", y.now(2), row[i % 3]);
        }
        // one that comes while the watcher is at the last is next, ahead of the first
        y.rest();
        y.round(6);
        y.round(7);
        y.minutes(2);
        y.round(8);
        y.minutes(1);
        Due.is("the one behind", y.now(2), 8);
        y.minutes(1);
        Due.is("then the first", y.now(2), 6);
    }

    /** Section 1, "the first of them, if they were empty". */
    private static void roundsThatWereEmptyBeginAtTheFirst() {
        SleepWard x = new SleepWard();
        x.round(5);
        x.round(6);
        x.round(7);
        x.minutes(2);
        x.rest();
        Due.is("it stays", x.now(2), 6);
        x.minutes(4);
        Due.is("it stays", x.now(2), 6);
        x.round(10);
        x.round(11);
        x.round(12);
        Due.is("it stays until a minute goes", x.now(2), 6);
        x.minutes(1);
        Due.is("the first", x.now(2), 10);
        // emptied and filled with no minute between
        x.rest();
        x.round(20);
        x.round(21);
        x.minutes(1);
        Due.is("the first", x.now(2), 20);
    }

    /** Promise 9, "how many there were". */
    private static void restOfNoneAndOfTwelve() {
        Twins.keeps("none", SleepWard::new, SleepWard::rest, 0);
        SleepWard x = Settings.full();
        Due.is("twelve", x.rest(), 12);
        Due.is("none", x.rest(), 0);
        Due.is("none", x.count(4), 0);
        Twins.changes("three", Settings::rich, SleepWard::rest, 3, "rounds", "round 1", "round 2", "round 4", "round 5",
            "round 7", "round 8", "round 10", "round 11", "round 13");
    }
}
