/** The edges of promises 35 to 40 and of section 3, a method for each sentence that names one. */
public final class SheetsEdgesTest {
    public static void main(String[] args) {
        sheetsAreZeroToThree();
        sheetsAreMissingAtFirst();
        bitsAreEightSixteenOrSixtyFour();
        sheetsHaveZeroToFortyNumbers();
        sheetFindingsInTheirOrder();
        aMissingSheetIsOfNone();
        aSheetAnewIsAllZero();
        writeOfNoSheet();
        writeOfNoNumber();
        writeKeepsTheLowestBits();
        writeChangesOneNumber();
        copyFindingsInTheirOrder();
        copyOfSheetsOfOtherBits();
        copyFromAndToTheEnd();
        copyOfNoneAndOfForty();
        copyBelowZeroAndFarBeyond();
        copyOntoItself();
        laysOfNoSheet();
        laysZeroToNine();
        laysTwentyFiveOfForty();
        laysOfNone();
        trackFindingsInTheirOrder();
        trackOfNoWalker();
        trackOfNoneAndOfForty();
        tracksEndLate();
        whoseFindingsInTheirOrder();
        whoseOfAnEmptySheet();
        whoseIsTheLeast();
        whoseMustBeAllNumbers();
        whoseOfWideNumbers();
        Due.end();
    }

    /** Section 3, "SHEETS 0 to 3", for each call that names one. */
    private static void sheetsAreZeroToThree() {
        for (int s : Settings.outside(0, 3)) {
            Twins.refuses("sheet " + s, Settings::rich, x -> x.sheet(s, 8, 1), Due.BEYOND);
            Twins.refuses("sheet away " + s, Settings::rich, x -> x.sheet(s, 0, 0), Due.BEYOND);
            Twins.refuses("write " + s, Settings::rich, x -> x.write(s, 0, 1), Due.BEYOND);
            Twins.refuses("copy from " + s, Settings::rich, x -> x.copy(s, 0, 0, 0, 1), Due.BEYOND);
            Twins.refuses("copy to " + s, Settings::rich, x -> x.copy(0, 0, s, 0, 1), Due.BEYOND);
            Twins.refuses("copy " + s, Settings::rich, x -> x.copy(s, 0, s, 0, 1), Due.BEYOND);
            Twins.refuses("lays " + s, Settings::rich, x -> x.lays(s), Due.BEYOND);
            Twins.refuses("track " + s, Settings::rich, x -> x.track(s, 0), Due.BEYOND);
            Twins.refuses("whose " + s, Settings::rich, x -> x.whose(s), Due.BEYOND);
        }
        SleepWard x = new SleepWard();
        for (int s = 0; s < 4; s++) {
            Due.is("sheet", x.sheet(s, 8, s + 1), s + 1);
            Due.is("write", x.write(s, s, 5), 0);
        }
        for (int s = 0; s < 4; s++) {
            Due.is("each its own", x.write(s, s, 0), 5);
            Due.is("no more", x.write(s, s + 1, 0), Due.BEYOND);
        }
    }

    /** Section 3, "or MISSING (at first)". */
    private static void sheetsAreMissingAtFirst() {
        for (int s = 0; s < 4; s++) {
            int one = s;
            int other = (s + 1) % 4;
            Twins.Making making = () -> {
                SleepWard x = Due.told("walker at 3");
                x.sheet(other, 8, 2);
                return x;
            };
            Twins.refuses("write " + s, making, x -> x.write(one, 0, 1), Due.MISSING);
            Twins.refuses("copy from " + s, making, x -> x.copy(one, 0, other, 0, 0), Due.MISSING);
            Twins.refuses("copy to " + s, making, x -> x.copy(other, 0, one, 0, 0), Due.MISSING);
            Twins.refuses("copy " + s, making, x -> x.copy(one, 0, one, 0, 0), Due.MISSING);
            Twins.refuses("lays " + s, making, x -> x.lays(one), Due.MISSING);
            Twins.refuses("track " + s, making, x -> x.track(one, 0), Due.MISSING);
            Twins.refuses("whose " + s, making, x -> x.whose(one), Due.MISSING);
        }
    }

    /** Promise 35, "of 8, 16 or 64 bits; bits 0", "BEYOND: .. other bits". */
    private static void bitsAreEightSixteenOrSixtyFour() {
        for (int bits = -2; bits <= 130; bits++) {
            if (bits != 0 && bits != 8 && bits != 16 && bits != 64) {
                Due.is("bits " + bits, new SleepWard().sheet(0, bits, 1), Due.BEYOND);
            }
        }
        int[] others = {-64, -16, -8, -1, 1, 7, 9, 15, 17, 32, 63, 65, Integer.MIN_VALUE, Integer.MAX_VALUE};
        for (int bits : others) {
            Twins.refuses("bits " + bits, Settings::rich, x -> x.sheet(0, bits, 1), Due.BEYOND);
        }
        for (int bits : new int[] {8, 16, 64}) {
            SleepWard x = new SleepWard();
            Due.is("sheet", x.sheet(3, bits, 1), 1);
            x.write(3, 0, 0x7123456789ABCDEFL);
            long want = bits == 8 ? 0xFFFFFFFFFFFFFFEFL : bits == 16 ? 0xFFFFFFFFFFFFCDEFL : 0x7123456789ABCDEFL;
            Due.is("its lowest bits", x.write(3, 0, 0), want);
        }
    }

    /** Section 3, "at most 40 numbers"; promise 35, "n", "SIZE: n is below 0", "BEYOND: n is above 40". */
    private static void sheetsHaveZeroToFortyNumbers() {
        for (int bits : new int[] {8, 16, 64}) {
            for (int n : new int[] {0, 1, 39, 40}) {
                SleepWard x = new SleepWard();
                Due.is("so many", x.sheet(2, bits, n), n);
                Due.is("the last", x.write(2, n - 1, 1), n > 0 ? 0 : Due.BEYOND);
                Due.is("one behind it", x.write(2, n, 1), Due.BEYOND);
            }
            Twins.refuses("41", Settings::rich, x -> x.sheet(0, bits, 41), Due.BEYOND);
            Twins.refuses("most", Settings::rich, x -> x.sheet(0, bits, Integer.MAX_VALUE), Due.BEYOND);
            Twins.refuses("-1", Settings::rich, x -> x.sheet(0, bits, -1), Due.SIZE);
            Twins.refuses("least", Settings::rich, x -> x.sheet(0, bits, Integer.MIN_VALUE), Due.SIZE);
        }
    }

    /** Promise 35, "BEYOND .. SIZE .. BEYOND", "(also with bits 0)". */
    private static void sheetFindingsInTheirOrder() {
        Twins.refuses("no such, below 0", Settings::rich, x -> x.sheet(4, 8, -1), Due.BEYOND);
        Twins.refuses("no such, below 0", Settings::rich, x -> x.sheet(-1, 0, -1), Due.BEYOND);
        Twins.refuses("other bits, below 0", Settings::rich, x -> x.sheet(0, 9, -1), Due.BEYOND);
        Twins.refuses("bits 0, below 0", Settings::rich, x -> x.sheet(0, 0, -1), Due.SIZE);
        Twins.refuses("bits 0, least", Settings::rich, x -> x.sheet(0, 0, Integer.MIN_VALUE), Due.SIZE);
        Twins.refuses("bits 0, 41", Settings::rich, x -> x.sheet(0, 0, 41), Due.BEYOND);
        Twins.refuses("bits 0, most", Settings::rich, x -> x.sheet(0, 0, Integer.MAX_VALUE), Due.BEYOND);
    }

    /** Promise 35, "bits 0: it is MISSING: n (0 if it is MISSING)". */
    private static void aMissingSheetIsOfNone() {
        for (int n : new int[] {0, 1, 40}) {
            SleepWard x = Settings.rich();
            Due.is("missing now", x.sheet(1, 0, n), 0);
            Due.is("missing", x.write(1, 0, 1), Due.MISSING);
            Due.is("missing yet", x.sheet(1, 0, n), 0);
            Due.is("others are there", x.write(0, 0, 1), 11);
            Due.is("there again", x.sheet(1, 16, 40), 40);
            Due.is("all 0", x.write(1, 39, 1), 0);
            int many = n;
            Twins.keeps("missing yet", Settings::rich, y -> y.sheet(3, 0, many), 0);
        }
        // none of its numbers is not the same as missing
        SleepWard x = new SleepWard();
        x.sheet(0, 8, 0);
        Due.is("there, but empty", x.write(0, 0, 1), Due.BEYOND);
    }

    /** Promise 35, "all 0": whatever it was; no number of a longer one comes back. */
    private static void aSheetAnewIsAllZero() {
        SleepWard x = new SleepWard();
        x.sheet(0, 64, 40);
        for (int i = 0; i < 40; i++) {
            x.write(0, i, -1 - i);
        }
        x.sheet(0, 8, 3);
        for (int i = 0; i < 3; i++) {
            Due.is("all 0", x.write(0, i, 7), 0);
        }
        x.sheet(0, 64, 40);
        for (int i = 0; i < 40; i++) {
            Due.is("all 0", x.write(0, i, 0), 0);
        }
    }

    /** Promise 36, "BEYOND: no such sheet. MISSING. BEYOND: no such number": in this order, in longs. */
    private static void writeOfNoSheet() {
        Twins.refuses("no such sheet", Settings::rich, x -> x.write(4, -1, 0), Due.BEYOND);
        Twins.refuses("missing, no such number", Settings::rich, x -> x.write(3, -1, 0), Due.MISSING);
        Twins.refuses("missing, no such number", Settings::rich, x -> x.write(3, 40, 0), Due.MISSING);
        Due.is("in longs", new SleepWard().write(4, 0, 0), -1000000001L);
        Due.is("in longs", new SleepWard().write(0, 0, 0), -1000000006L);
    }

    /** Promise 36, "BEYOND: no such number". */
    private static void writeOfNoNumber() {
        for (int i : Settings.outside(0, 2)) {
            Twins.refuses("number " + i + " of three", Settings::rich, x -> x.write(0, i, 1), Due.BEYOND);
        }
        for (int i : Settings.outside(0, 39)) {
            Twins.refuses("number " + i + " of forty", Settings::rich, x -> x.write(1, i, 1), Due.BEYOND);
        }
        Twins.changes("the first of forty", Settings::rich, x -> x.write(1, 0, 1), 0, "number 1 0");
        Twins.changes("the last of forty", Settings::rich, x -> x.write(1, 39, 1), 999, "number 1 39");
    }

    /** Promise 36, "(its lowest bits)"; section 3, "with a sign". */
    private static void writeKeepsTheLowestBits() {
        long[] numbers = {0, 1, -1, 127, 128, -128, -129, 255, 256, 32767, 32768, -32768, -32769, 65535, 65536,
            Integer.MAX_VALUE, Integer.MIN_VALUE, 1L << 32, Long.MAX_VALUE, Long.MIN_VALUE, Due.BEYOND, Due.SIZE};
        SleepWard x = new SleepWard();
        x.sheet(0, 8, 1);
        x.sheet(1, 16, 1);
        x.sheet(2, 64, 1);
        for (long v : numbers) {
            for (int s = 0; s < 3; s++) {
                x.write(s, 0, v);
            }
            long eight = (v & 255) > 127 ? (v & 255) - 256 : v & 255;
            long sixteen = (v & 65535) > 32767 ? (v & 65535) - 65536 : v & 65535;
            Due.is("8 bits of " + v, x.write(0, 0, 0), eight);
            Due.is("16 bits of " + v, x.write(1, 0, 0), sixteen);
            Due.is("64 bits of " + v, x.write(2, 0, 0), v);
        }
        Due.is("none of them is a finding", x.status(-1), 0);
    }

    /** Promise 36: that number, and no other one. */
    private static void writeChangesOneNumber() {
        Twins.changes("of three", Settings::rich, x -> x.write(0, 1, 300), 0, "number 0 1");
        Twins.changes("of one", Settings::rich, x -> x.write(2, 0, 0), Long.MIN_VALUE, "number 2 0");
        Twins.keeps("as it was", Settings::rich, x -> x.write(0, 0, 11), 11);
        Twins.keeps("as it was, in its lowest bits", Settings::rich, x -> x.write(0, 0, 256 + 11), 11);
    }

    /** Promise 37, "BEYOND .. MISSING .. KIND .. BEYOND": in this order. */
    private static void copyFindingsInTheirOrder() {
        Twins.refuses("no such, the other is missing", Settings::rich, x -> x.copy(4, 0, 3, 0, 1), Due.BEYOND);
        Twins.refuses("no such, the first is missing", Settings::rich, x -> x.copy(3, 0, 4, 0, 1), Due.BEYOND);
        Twins.refuses("no such, below 0", Settings::rich, x -> x.copy(0, 0, -1, 0, -1), Due.BEYOND);
        Twins.refuses("missing, other bits", Settings::rich, x -> x.copy(3, 0, 0, 0, 1), Due.MISSING);
        Twins.refuses("missing, other bits", Settings::rich, x -> x.copy(0, 0, 3, 0, 1), Due.MISSING);
        Twins.refuses("missing, below 0", Settings::rich, x -> x.copy(3, -1, 0, -1, -1), Due.MISSING);
        Twins.refuses("missing, too many", Settings::rich, x -> x.copy(0, 0, 3, 0, 41), Due.MISSING);
        Twins.refuses("other bits, below 0", Settings::rich, x -> x.copy(0, -1, 1, 0, 1), Due.KIND);
        Twins.refuses("other bits, below 0", Settings::rich, x -> x.copy(0, 0, 1, -1, 1), Due.KIND);
        Twins.refuses("other bits, below 0", Settings::rich, x -> x.copy(0, 0, 1, 0, -1), Due.KIND);
        Twins.refuses("other bits, too many", Settings::rich, x -> x.copy(0, 0, 1, 0, 41), Due.KIND);
    }

    /** Promise 37, "KIND: they are not of as many bits": even if none is to come. */
    private static void copyOfSheetsOfOtherBits() {
        int[] bits = {8, 16, 64};
        for (int one : bits) {
            for (int other : bits) {
                Twins.Making making = () -> {
                    SleepWard x = new SleepWard();
                    x.sheet(0, one, 2);
                    x.sheet(1, other, 2);
                    x.write(0, 1, -5);
                    return x;
                };
                if (one == other) {
                    Twins.changes("of as many bits", making, x -> x.copy(0, 1, 1, 0, 1), 1, "number 1 0");
                    Twins.keeps("none of them", making, x -> x.copy(0, 1, 1, 0, 0), 0);
                } else {
                    Twins.refuses(one + " to " + other, making, x -> x.copy(0, 1, 1, 0, 1), Due.KIND);
                    Twins.refuses("none, " + one + " to " + other, making, x -> x.copy(0, 1, 1, 0, 0), Due.KIND);
                }
            }
        }
    }

    /** Five numbers 1 to 5 and three of -1. */
    private static SleepWard fiveAndThree() {
        SleepWard x = new SleepWard();
        x.sheet(0, 8, 5);
        x.sheet(1, 8, 3);
        for (int i = 0; i < 5; i++) {
            x.write(0, i, i + 1);
        }
        for (int i = 0; i < 3; i++) {
            x.write(1, i, -1);
        }
        return x;
    }

    /** Promise 37, "BEYOND: one has not so many": either of them, by one. */
    private static void copyFromAndToTheEnd() {
        for (int from = 0; from <= 6; from++) {
            for (int to = 0; to <= 4; to++) {
                for (int n = 0; n <= 6; n++) {
                    SleepWard x = fiveAndThree();
                    boolean is = from + n <= 5 && to + n <= 3;
                    String call = "copy(0, " + from + ", 1, " + to + ", " + n + ")";
                    Due.is(call, x.copy(0, from, 1, to, n), is ? n : Due.BEYOND);
                    for (int i = 0; i < 3; i++) {
                        boolean came = is && i >= to && i < to + n;
                        Due.is(call + ": number " + i, x.write(1, i, 0), came ? from + i - to + 1 : -1);
                    }
                    SleepWard y = fiveAndThree();
                    Due.is("back", y.copy(1, to, 0, from, n), is ? n : Due.BEYOND);
                    for (int i = 0; i < 5; i++) {
                        boolean came = is && i >= from && i < from + n;
                        Due.is("back: number " + i, y.write(0, i, 0), came ? -1 : i + 1);
                    }
                }
            }
        }
        Twins.refuses("one too many here", SheetsEdgesTest::fiveAndThree, x -> x.copy(0, 3, 1, 0, 3), Due.BEYOND);
        Twins.refuses("one too many there", SheetsEdgesTest::fiveAndThree, x -> x.copy(0, 0, 1, 1, 3), Due.BEYOND);
    }

    /** Promise 37, "n": none at all, of an empty sheet, too, and all forty. */
    private static void copyOfNoneAndOfForty() {
        Twins.keeps("none", SheetsEdgesTest::fiveAndThree, x -> x.copy(0, 0, 1, 0, 0), 0);
        Twins.keeps("none from the end", SheetsEdgesTest::fiveAndThree, x -> x.copy(0, 5, 1, 3, 0), 0);
        SleepWard x = new SleepWard();
        x.sheet(0, 64, 0);
        Due.is("none of an empty one", x.copy(0, 0, 0, 0, 0), 0);
        Due.is("one of an empty one", x.copy(0, 0, 0, 0, 1), Due.BEYOND);
        x.sheet(1, 64, 40);
        x.sheet(2, 64, 40);
        for (int i = 0; i < 40; i++) {
            x.write(1, i, i * 1000000007L - 5);
        }
        Due.is("41", x.copy(1, 0, 2, 0, 41), Due.BEYOND);
        Due.is("all", x.copy(1, 0, 2, 0, 40), 40);
        for (int i = 0; i < 40; i++) {
            Due.is("number " + i, x.write(2, i, 0), i * 1000000007L - 5);
            Due.is("the first stays", x.write(1, i, 0), i * 1000000007L - 5);
        }
    }

    /** Promise 37, "or from, to or n is below 0": sums that go round are refused as well. */
    private static void copyBelowZeroAndFarBeyond() {
        int min = Integer.MIN_VALUE;
        int max = Integer.MAX_VALUE;
        int[][] calls = {{-1, 0, 1}, {0, -1, 1}, {0, 0, -1}, {-1, 0, 0}, {0, -1, 0}, {min, 0, 1}, {0, min, 1}, {0, 0, min},
            {max, 0, 1}, {0, max, 1}, {0, 0, max}, {max, max, max}, {min, min, min}, {max, 0, max}, {1, 1, max},
            {max, 0, 0}, {0, max, 0}, {5, 5, -1}, {2, 2, -2}, {min, 0, max}, {-1, -1, 3}};
        for (int[] c : calls) {
            String call = "copy(0, " + c[0] + ", 1, " + c[1] + ", " + c[2] + ")";
            Twins.refuses(call, SheetsEdgesTest::fiveAndThree, x -> x.copy(0, c[0], 1, c[1], c[2]), Due.BEYOND);
            Twins.refuses(call + " onto itself", SheetsEdgesTest::fiveAndThree, x -> x.copy(0, c[0], 0, c[1], c[2]),
                Due.BEYOND);
        }
    }

    /** Promise 37, "(as they all were)". */
    private static void copyOntoItself() {
        for (int from = 0; from <= 5; from++) {
            for (int to = 0; to <= 5; to++) {
                int n = 5 - Math.max(from, to);
                SleepWard x = fiveAndThree();
                Due.is("copy", x.copy(0, from, 0, to, n), n);
                for (int i = 0; i < 5; i++) {
                    boolean came = i >= to && i < to + n;
                    Due.is("number " + i, x.write(0, i, 0), came ? from + i - to + 1 : i + 1);
                }
            }
        }
        Twins.keeps("onto the same place", SheetsEdgesTest::fiveAndThree, x -> x.copy(0, 1, 0, 1, 3), 3);
    }

    /** Promise 38, "BEYOND: no such sheet. MISSING." */
    private static void laysOfNoSheet() {
        Twins.refuses("missing", Settings::rich, x -> x.lays(3), Due.MISSING);
        Twins.refuses("no such", Settings::rich, x -> x.lays(4), Due.BEYOND);
        Twins.refuses("no such", Settings::rich, x -> x.lays(-1), Due.BEYOND);
    }

    /** Promise 38, "those that aren't 0 to 9 .. are left out". */
    private static void laysZeroToNine() {
        long[] numbers = {-1, 0, 9, 10, Long.MIN_VALUE, Long.MAX_VALUE, 1L << 32, (1L << 32) + 9, -9, 256, 5, 1};
        SleepWard x = new SleepWard();
        x.sheet(0, 64, numbers.length);
        for (int i = 0; i < numbers.length; i++) {
            x.write(0, i, numbers[i]);
            x.height(i, 7);
        }
        Due.is("how many came", x.lays(0), 4);
        for (int i = 0; i < 25; i++) {
            boolean came = i < numbers.length && numbers[i] >= 0 && numbers[i] <= 9;
            Due.is("height " + i, x.squareOf(i, 0), came ? numbers[i] : i < numbers.length ? 7 : 5);
        }
        // of 8 bits 200 is below 0, and 256 is 0
        x.sheet(1, 8, 3);
        x.write(1, 0, 200);
        x.write(1, 1, 256);
        x.write(1, 2, 256 + 9);
        Due.is("of 8 bits", x.lays(1), 2);
        Due.is("height 0", x.squareOf(0, 0), 7);
        Due.is("height 1", x.squareOf(1, 0), 0);
        Due.is("height 2", x.squareOf(2, 0), 9);
        for (int i = 0; i < 3; i++) {
            Due.is("its numbers stay", x.write(1, i, 0), new int[] {-56, 0, 9}[i]);
        }
        Twins.changes("three numbers", Settings::rich, y -> y.lays(0), 1, "height 1");
    }

    /** Promise 38, "or stand for none": there are 25 squares. */
    private static void laysTwentyFiveOfForty() {
        for (int n : new int[] {24, 25, 26, 40}) {
            SleepWard x = new SleepWard();
            x.sheet(0, 16, n);
            for (int i = 0; i < n; i++) {
                x.write(0, i, 1 + i % 9);
            }
            Due.is("how many came", x.lays(0), Math.min(25, n));
            for (int i = 0; i < 25; i++) {
                Due.is("height " + i, x.squareOf(i, 0), i < n ? 1 + i % 9 : 5);
            }
        }
    }

    /** Promise 38, "how many came": none of an empty sheet, none that may be. */
    private static void laysOfNone() {
        Twins.Making making = () -> {
            SleepWard x = Settings.rich();
            x.sheet(0, 8, 0);
            return x;
        };
        Twins.keeps("an empty one", making, x -> x.lays(0), 0);
        Twins.keeps("none that may be", Settings::rich, x -> x.lays(2), 0);
    }

    /** Promise 39, "BEYOND: no such sheet. MISSING. BEYOND: walker. STATE": in this order. */
    private static void trackFindingsInTheirOrder() {
        Twins.refuses("no such sheet, nor walker", Settings::rich, x -> x.track(4, 6), Due.BEYOND);
        Twins.refuses("missing, no such walker", Settings::rich, x -> x.track(3, 6), Due.MISSING);
        Twins.refuses("missing, no such walker", Settings::rich, x -> x.track(3, -1), Due.MISSING);
        Twins.Making late = () -> Settings.rich(9500);
        Twins.refuses("no such sheet, late", late, x -> x.track(-1, 0), Due.BEYOND);
        Twins.refuses("missing, late", late, x -> x.track(3, 0), Due.MISSING);
        Twins.refuses("no such walker, late", late, x -> x.track(0, 6), Due.BEYOND);
        Twins.refuses("no such walker, late", late, x -> x.track(0, -1), Due.BEYOND);
        Twins.refuses("late", late, x -> x.track(0, 0), Due.STATE);
    }

    /** Promise 39, "BEYOND: walker". */
    private static void trackOfNoWalker() {
        for (int walker : Settings.outside(0, 5)) {
            Twins.refuses("track of " + walker, Settings::rich, x -> x.track(0, walker), Due.BEYOND);
        }
        for (int walker : Settings.outside(0, 7)) {
            Twins.refuses("track of " + walker, Settings::full, x -> x.track(0, walker), Due.BEYOND);
        }
        SleepWard x = new SleepWard();
        x.sheet(0, 8, 0);
        Due.is("nobody is there", x.track(0, 0), Due.BEYOND);
    }

    /** Promise 39, "ON 0, 1, .. MINUTES .., as many as it has numbers". */
    private static void trackOfNoneAndOfForty() {
        for (int bits : new int[] {8, 16, 64}) {
            for (int n : new int[] {0, 1, 2, 40}) {
                SleepWard x = Due.told("wanderer at 24;wanderer at 3;walker at 9");
                x.sheet(1, bits, n);
                Due.is("so many", x.track(1, 1), n);
                for (int i = 0; i < n; i++) {
                    Due.is("number " + i, x.write(1, i, 0), x.on(1, i));
                }
            }
        }
        Twins.Making making = () -> {
            SleepWard x = Settings.rich();
            x.sheet(0, 8, 0);
            return x;
        };
        Twins.keeps("an empty one", making, x -> x.track(0, 4), 0);
        Twins.changes("one number", Settings::rich, x -> x.track(2, 1), 1, "number 2 0");
    }

    /** Promise 39, "STATE: MINUTE is above 9499"; promise 40, "STATE likewise". */
    private static void tracksEndLate() {
        Twins.changes("track at 9499", () -> Settings.rich(9499), x -> x.track(2, 1), 1, "number 2 0");
        Twins.refuses("whose at 9499", () -> Settings.rich(9499), x -> x.whose(1), Due.NONE);
        for (int minute : new int[] {9500, 9999}) {
            Twins.Making late = () -> {
                SleepWard x = Settings.rich(minute);
                x.sheet(0, 8, 0);
                return x;
            };
            Twins.refuses("track", late, x -> x.track(1, 1), Due.STATE);
            Twins.refuses("track to an empty one", late, x -> x.track(0, 1), Due.STATE);
            Twins.refuses("whose", late, x -> x.whose(1), Due.STATE);
            Twins.refuses("whose of an empty one", late, x -> x.whose(0), Due.STATE);
        }
    }

    /** Promise 40, "BEYOND: no such sheet. MISSING. STATE likewise. NONE": in this order. */
    private static void whoseFindingsInTheirOrder() {
        Twins.Making late = () -> Settings.rich(9500);
        Twins.refuses("no such sheet, late", late, x -> x.whose(4), Due.BEYOND);
        Twins.refuses("no such sheet, late", late, x -> x.whose(-1), Due.BEYOND);
        Twins.refuses("missing, late", late, x -> x.whose(3), Due.MISSING);
        Twins.refuses("late, nobody's", late, x -> x.whose(2), Due.STATE);
        Twins.refuses("nobody's", Settings::rich, x -> x.whose(2), Due.NONE);
    }

    /** Promise 40: all numbers of an empty sheet are anybody's, if there is one. */
    private static void whoseOfAnEmptySheet() {
        SleepWard x = new SleepWard();
        x.sheet(0, 8, 0);
        Due.is("nobody is there", x.whose(0), Due.NONE);
        x.walker(0, 24, 0);
        Due.is("the only one", x.whose(0), 0);
        x.walker(0, 0, 0);
        Due.is("the least", x.whose(0), 0);
        x.sheet(0, 8, 1);
        x.write(0, 0, 24);
        Due.is("one number", x.whose(0), 0);
        x.write(0, 0, 0);
        Due.is("one number", x.whose(0), 1);
    }

    /** Promise 40, "the least WALKER": the first, the last of eight. */
    private static void whoseIsTheLeast() {
        SleepWard x = Settings.full();
        for (int walker = 0; walker < 8; walker++) {
            x.track(0, walker);
            Due.is("whose", x.whose(0), walker);
        }
        for (int walker = 6; walker >= 0; walker--) {
            x.set(walker, 2, 21);
            Due.is("the least of several", x.whose(0), walker);
        }
        Twins.keeps("whose", () -> {
            SleepWard y = Settings.rich();
            y.track(1, 4);
            return y;
        }, y -> y.whose(1), 4);
    }

    /** Promise 40, "whose PLACES .. the numbers of a sheet are": all of them, the first and the last, too. */
    private static void whoseMustBeAllNumbers() {
        for (int i : new int[] {0, 1, 38, 39}) {
            SleepWard x = Due.told("wanderer at 12;rounds 3 3");
            x.sheet(0, 8, 40);
            x.track(0, 0);
            Due.is("his", x.whose(0), 0);
            long was = x.write(0, i, 24);
            Due.is("nobody's", x.whose(0), was == 24 ? 0 : Due.NONE);
            x.write(0, i, -1);
            Due.is("nobody's", x.whose(0), Due.NONE);
            x.write(0, i, was);
            Due.is("his again", x.whose(0), 0);
        }
    }

    /** Promise 40: a number that is no square is nobody's, even if its lowest bits are. */
    private static void whoseOfWideNumbers() {
        SleepWard x = Due.told("walker at 6;walker at 0");
        x.sheet(0, 64, 1);
        long[] numbers = {6 + (1L << 32), 6 + 256, 6 + 65536, 6 - 256, Long.MIN_VALUE, Long.MAX_VALUE, 25, -1, 1L << 32};
        for (long v : numbers) {
            x.write(0, 0, v);
            Due.is("nobody's", x.whose(0), Due.NONE);
        }
        x.sheet(1, 8, 1);
        x.write(1, 0, 6 + 256);
        Due.is("its lowest bits are kept alone", x.whose(1), 0);
    }
}
