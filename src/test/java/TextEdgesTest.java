/** The edges of promises 32 to 34 and of the text, a method for each sentence that names one. */
public final class TextEdgesTest {
    private static final String[] KINDS = {"walker", "sloper", "lamper", "homer", "wanderer", "mooner"};

    public static void main(String[] args) {
        feedIsOneToFourBytes();
        theHighestByteComesFirst();
        theTapeHasAHundredTwentyBytes();
        feedIsBeyondAheadOfFull();
        wipeOfNoneAndOfAHundredTwenty();
        theTapeIsEmptyThen();
        aFaultIsNoFinding();
        aFaultChangesNothingAtAll();
        aTextOfNothing();
        oneItemAndTwentyFour();
        aTextOfAHundredTwentyBytes();
        tokensAreAsLongAsCanBe();
        wordsAreLettersAToZ();
        numbersAreDigits();
        numbersAreNineThousandNineHundredNinetyNineAtMost();
        blanksMayStandBetween();
        bytesThatBeginNoToken();
        itEndsTooEarly();
        moreThanAnItem();
        squaresOfTheText();
        doorsOfTheText();
        heightsOfTheText();
        lampsAndTheRiverOfTheText();
        moonsOfTheText();
        kindsOfTheText();
        waysOfTheText();
        aNinthWalker();
        roundsOfTheText();
        roundsBeginAtTheFirst();
        theFirstTokenThatCannotStand();
        itemsComeToWhatThereIs();
        Due.end();
    }

    private static void fault(String text, int place) {
        Due.ward(new SleepWard(), text, -1 - place);
    }

    /** Promise 32, "n 1 to 4". */
    private static void feedIsOneToFourBytes() {
        for (int n : Settings.outside(1, 4)) {
            Twins.refuses("feed(0, " + n + ")", Settings::rich, x -> x.feed(0x20202020, n), Due.BEYOND);
        }
        SleepWard x = new SleepWard();
        int had = 0;
        for (int n = 1; n <= 4; n++) {
            had += n;
            Due.is("so many", x.feed(0x20202020, n), had);
        }
        Twins.changes("one more", Settings::rich, y -> y.feed('x', 1), 14, "tape", "text", "moon of the text");
    }

    /** Promise 32, "the n lowest bytes of a number .., the highest of these first". */
    private static void theHighestByteComesFirst() {
        SleepWard x = new SleepWard();
        x.feed('m' << 24 | 'o' << 16 | 'o' << 8 | 'n', 4);
        x.feed('9' << 24 | ' ' << 16 | '0' << 8 | '3', 3);
        Due.is("moon 03", x.ward(), 1);
        Due.is("moon", x.now(1), 3);
        x.feed('d' << 24 | 'r' << 16 | 'm' << 8 | 'o', 2);
        x.feed('x' << 8 | 'o', 1);
        x.feed('x' << 24 | 'x' << 16 | 'n' << 8 | '1', 2);
        Due.is("moon1", x.ward(), 1);
        Due.is("moon", x.now(1), 1);
        // a number below 0 has bytes, too
        x.feed(0xFFFFFF00 | 'm', 1);
        x.feed(0xFF000000 | 'o' << 16 | 'o' << 8 | 'n', 3);
        x.feed(0xFFFF0000 | ' ' << 8 | '2', 2);
        Due.is("moon 2", x.ward(), 1);
        Due.is("moon", x.now(1), 2);
        x.feed(0x80000000 | '1', 4);
        Due.is("its highest byte begins no token", x.ward(), -1);
    }

    /** Section 1, "THE TAPE (bytes, at most 120)"; promise 32, "FULL". */
    private static void theTapeHasAHundredTwentyBytes() {
        for (int had = 116; had <= 120; had++) {
            int bytes = had;
            for (int n = 1; n <= 4; n++) {
                int more = n;
                Twins.Making making = () -> tapeOf(bytes);
                if (had + n <= 120) {
                    Due.is(had + " and " + n, making.make().feed(0x20202020, n), had + n);
                } else {
                    Twins.refuses(had + " and " + n, making, x -> x.feed(0x20202020, more), Due.FULL);
                }
            }
        }
        Twins.refuses("the full ward", Settings::full, x -> x.feed(' ', 1), Due.FULL);
        SleepWard x = tapeOf(120);
        x.wipe();
        Due.is("room again", x.feed(0x20202020, 4), 4);
        SleepWard y = tapeOf(120);
        y.ward();
        Due.is("room again", y.feed(0x20202020, 4), 4);
    }

    private static SleepWard tapeOf(int bytes) {
        SleepWard x = new SleepWard();
        Due.feed(x, "moon 2" + " ".repeat(bytes - 6));
        return x;
    }

    /** Promise 32, "BEYOND: n. FULL.": in this order. */
    private static void feedIsBeyondAheadOfFull() {
        for (int n : Settings.outside(1, 4)) {
            Twins.refuses("feed " + n + " to a full tape", Settings::full, x -> x.feed(0, n), Due.BEYOND);
        }
    }

    /** Promise 33, "how many it had". */
    private static void wipeOfNoneAndOfAHundredTwenty() {
        Twins.keeps("none", SleepWard::new, SleepWard::wipe, 0);
        Twins.changes("thirteen", Settings::rich, SleepWard::wipe, 13, "tape", "text", "moon of the text");
        SleepWard x = Settings.full();
        Due.is("all", x.wipe(), 120);
        Due.is("none", x.wipe(), 0);
        Due.is("its text is gone", x.ward(), -1);
    }

    /** Promise 34, "and empty then", with and without a fault. */
    private static void theTapeIsEmptyThen() {
        SleepWard x = new SleepWard();
        Due.feed(x, "moon 1");
        x.ward();
        Due.is("empty", x.count(5), 0);
        Due.is("nothing is left of it", x.ward(), -1);
        Due.feed(x, "moon 7;lamp 3");
        Due.is("a fault", x.ward(), -6);
        Due.is("empty", x.count(5), 0);
        Due.feed(x, "moon");
        Due.is("what comes is read from 0", x.ward(), -5);
        Due.is("no lamp", x.count(2), 0);
    }

    /** Promise 34, "no finding". */
    private static void aFaultIsNoFinding() {
        SleepWard x = new SleepWard();
        Due.ward(x, "moon 7", -6);
        Due.ward(x, "", -1);
        Due.ward(x, "?", -1);
        for (int which = -1; which < 7; which++) {
            Due.is("status " + which, x.status(which), 0);
        }
    }

    /** Promise 34, "nothing changes but that THE TAPE is empty": however much was read ahead of it. */
    private static void aFaultChangesNothingAtAll() {
        String[] items = {"shut 23 24", "open 6 7", "height 3 0", "lamp 5", "river 5", "dry 24", "moon 0", "homer at 9",
            "rounds 1 2"};
        String all = "";
        for (String item : items) {
            Twins.changes(item, () -> withTape(item + ";?"), SleepWard::ward, -2 - item.length(), "tape", "text");
            all += item + ";";
        }
        String text = all;
        Twins.changes(text, () -> withTape(text), SleepWard::ward, -1 - text.length(), "tape", "text");
    }

    /** The rich ward with another tape. */
    private static SleepWard withTape(String text) {
        SleepWard x = Settings.rich();
        x.wipe();
        Due.feed(x, text);
        return x;
    }

    /** Section 1, FAULT, "how many bytes there are if it ends too early": of none, and of blanks alone. */
    private static void aTextOfNothing() {
        Twins.keeps("an empty tape", SleepWard::new, SleepWard::ward, -1);
        for (int bytes : new int[] {1, 2, 119, 120}) {
            fault(" ".repeat(bytes), bytes);
        }
    }

    /** Section 1, "ITEM { ; ITEM }"; promise 34, "how many ITEMS". */
    private static void oneItemAndTwentyFour() {
        String text = "dry0";
        for (int items = 1; items <= 24; items++) {
            Due.ward(new SleepWard(), text, items);
            text += ";dry0";
        }
    }

    /** Section 1, "at most 120": a text that fills the tape, and faults at its last byte and behind it. */
    private static void aTextOfAHundredTwentyBytes() {
        String most = "dry0;".repeat(23) + "lamp2";
        Due.is("120 bytes", most.length(), 120);
        SleepWard x = new SleepWard();
        Due.ward(x, most, 24);
        Due.is("its last byte counts", x.squareOf(2, 1), 1);
        fault("dry0;".repeat(23) + "dry0;", 120);
        fault("dry0;".repeat(23) + "dry0?", 119);
        Due.ward(new SleepWard(), "dry0;".repeat(23) + "dry00", 24);
        fault("dry0;".repeat(23) + "dry", 118);
        fault("dry0;".repeat(23) + "lampx", 115);
        SleepWard y = new SleepWard();
        Due.ward(y, "lamp" + "0".repeat(115) + "7", 1);
        Due.is("a long number", y.squareOf(7, 1), 1);
        fault("lamp" + "9".repeat(116), 4);
        fault("a".repeat(120), 0);
    }

    /** Section 1, "TOKENS, each as long as can be": no word within a word, no number within a number. */
    private static void tokensAreAsLongAsCanBe() {
        fault("moonmoon 1", 0);
        fault("moons 1", 0);
        fault("lampriver 1", 0);
        fault("walkerat 1", 0);
        fault("shut 123", 5);
        fault("shut 1 23", 7);
        fault("height 111", 7);
        fault("moon 11", 5);
        fault("walker at 1wayway 1", 11);
        fault("walker at 250", 10);
        SleepWard x = new SleepWard();
        Due.ward(x, "walker at2way3;moon1;shut1 2;height3 4;lamp5;river6;dry6;rounds7 8", 8);
        Due.is("way", x.of(0, 3), 3);
        Due.is("moon", x.now(1), 1);
        Due.is("shut", x.isOpen(1, 2), 0);
        Due.is("height", x.squareOf(3, 0), 4);
        Due.is("lamp", x.squareOf(5, 1), 1);
        Due.is("river", x.count(3), 0);
        Due.is("rounds", x.count(4), 2);
    }

    /** Section 1, "letters a to z": those bytes that stand beside them are none, nor are great letters. */
    private static void wordsAreLettersAToZ() {
        for (char c : new char[] {'`', '{', '@', 'A', 'M', 'Z', '[', 'a' + 128, 'z' + 128}) {
            fault(c + "oon 1", 0);
            fault("moon" + c + " 1", 4);
        }
        for (char c : new char[] {'a', 'z', 'n'}) {
            fault(c + "oon 1", 0);
            fault("moon" + c + " 1", 0);
        }
    }

    /** Section 1, "NUMBERS (digits ..)": 0 to 9, and not the bytes beside them; leading zeros count for nothing. */
    private static void numbersAreDigits() {
        for (char c : new char[] {'/', ':', '-', '+', '.', '0' + 128, '9' + 128}) {
            fault("lamp 1" + c, 6);
            fault("lamp " + c + "1", 5);
        }
        for (int digit = 0; digit <= 9; digit++) {
            SleepWard x = new SleepWard();
            Due.ward(x, "lamp " + digit + ";lamp 1" + digit + ";height 24 " + digit + ";river 000" + digit, 4);
            Due.is("lamp", x.squareOf(digit, 1), 1);
            Due.is("lamp", x.squareOf(10 + digit, 1), 1);
            Due.is("height", x.squareOf(24, 0), digit);
            Due.is("river", x.squareOf(digit, 2), 1);
        }
    }

    /** Section 1, "9999 at most": no number is that great where one may stand, and none goes round. */
    private static void numbersAreNineThousandNineHundredNinetyNineAtMost() {
        String[] numbers = {"9999", "10000", "65536", "4294967296", "4294967297", "18446744073709551616",
            "18446744073709551617", "00010000"};
        for (String number : numbers) {
            fault("lamp " + number, 5);
            fault("moon " + number, 5);
            fault("height " + number + " 1", 7);
            fault("height 1 " + number, 9);
            fault("shut 0 " + number, 7);
            fault("walker at " + number, 10);
            fault("walker at 1 way " + number, 16);
            fault("rounds 1 " + number, 9);
        }
    }

    /** Section 1, "blanks may stand between": ahead of all, behind all, many and none. */
    private static void blanksMayStandBetween() {
        SleepWard x = new SleepWard();
        Due.ward(x, "   moon    3   ;   lamp   1   ", 2);
        Due.is("moon", x.now(1), 3);
        Due.ward(x, "moon1;lamp2", 2);
        Due.is("moon", x.now(1), 1);
        Due.ward(x, " ".repeat(114) + "moon 2", 1);
        Due.is("moon", x.now(1), 2);
        Due.ward(x, "moon" + " ".repeat(115) + "4", 1);
        Due.is("moon", x.now(1), 4);
        fault("mo on 1", 0);
        fault("moon 1 ; la mp 1", 9);
        fault("shut 1 1 2", 7);
        fault("height 1 1 0", 11);
    }

    /** Section 1, FAULT, "a byte that begins no TOKEN": each of all bytes, ahead of a text and behind one. */
    private static void bytesThatBeginNoToken() {
        for (int b = 0; b < 256; b++) {
            boolean isDigit = b >= '0' && b <= '9';
            SleepWard x = new SleepWard();
            x.feed(b, 1);
            Due.feed(x, "moon 3");
            Due.is("byte " + b + " ahead", x.ward(), b == ' ' ? 1 : -1);
            SleepWard y = new SleepWard();
            Due.feed(y, "moon 3 ");
            y.feed(b, 1);
            Due.is("byte " + b + " behind", y.ward(), b == ' ' ? 1 : b == ';' ? -9 : -8);
            SleepWard z = new SleepWard();
            Due.feed(z, "moon ");
            z.feed(b, 1);
            int want = b >= '0' && b <= '4' ? 1 : b == ' ' ? -7 : -6;
            Due.is("byte " + b + " for a number", z.ward(), want);
            Due.is("moon", z.now(1), want == 1 && isDigit ? b - '0' : 0);
        }
    }

    /** Section 1, FAULT, "how many bytes there are if it ends too early": behind each token, with blanks and without. */
    private static void itEndsTooEarly() {
        String[] starts = {"shut", "shut 1", "open", "open 1", "height", "height 1", "lamp", "river", "dry", "moon",
            "walker", "walker at", "walker at 1 way", "rounds", "moon 1;", "moon 1;lamp", "moon 1;homer at"};
        for (String start : starts) {
            fault(start, start.length());
            fault(start + "  ", start.length() + 2);
        }
        String[] wholes = {"shut 1 2", "height 1 2", "lamp 1", "walker at 1", "walker at 1 way 2", "rounds 1"};
        for (String whole : wholes) {
            Due.ward(new SleepWard(), whole, 1);
            Due.ward(new SleepWard(), whole + "  ", 1);
            fault(whole + ";", whole.length() + 1);
            fault(whole + "; ", whole.length() + 2);
        }
    }

    /** Section 1, "ITEM { ; ITEM }": what stands behind an item, and isn't a sign, can't stand there. */
    private static void moreThanAnItem() {
        String[] wholes = {"shut 1 2", "open 1 2", "height 1 2", "lamp 1", "river 1", "dry 1", "moon 1", "walker at 1",
            "walker at 1 way 2", "rounds 1"};
        for (String whole : wholes) {
            fault(whole + " moon 1", whole.length() + 1);
            fault(whole + " at", whole.length() + 1);
            if (!whole.startsWith("rounds")) {
                fault(whole + " 1", whole.length() + 1);
            }
            if (!whole.equals("walker at 1")) {
                fault(whole + " way 1", whole.length() + 1);
            }
            fault(whole + ";;", whole.length() + 1);
            fault(whole + "; ;", whole.length() + 2);
            fault(";" + whole, 0);
            fault("  ;" + whole, 2);
        }
    }

    /** Section 1, "a NUMBER (SQUARE)": 0 to 24 for every item. */
    private static void squaresOfTheText() {
        String[] words = {"lamp ", "river ", "dry ", "walker at ", "homer at ", "rounds ", "rounds 3 "};
        for (String word : words) {
            Due.ward(new SleepWard(), word + "0", 1);
            Due.ward(new SleepWard(), word + "24", 1);
            fault(word + "25", word.length());
            fault(word + "at", word.length());
            fault(word + "?", word.length());
        }
        for (String word : new String[] {"lamp ", "river ", "dry ", "walker at ", "rounds "}) {
            fault(word + ";", word.length());
        }
        for (String word : new String[] {"shut ", "open "}) {
            Due.ward(new SleepWard(), word + "0 1", 1);
            Due.ward(new SleepWard(), word + "24 23", 1);
            fault(word + "25 24", word.length());
            fault(word + "25", word.length());
            fault(word + ";", word.length());
        }
        Due.ward(new SleepWard(), "height 0 0", 1);
        Due.ward(new SleepWard(), "height 24 0", 1);
        fault("height 25 0", 7);
    }

    /** Section 1, "a NUMBER (one BESIDE it): that DOOR": every pair of squares. */
    private static void doorsOfTheText() {
        for (int one = 0; one < 25; one++) {
            SleepWard x = new SleepWard();
            for (int other = 0; other < 26; other++) {
                boolean beside = other < 25 && Math.abs(one / 5 - other / 5) + Math.abs(one % 5 - other % 5) == 1;
                String ahead = "shut " + one + " ";
                Due.ward(x, ahead + other, beside ? 1 : -1 - ahead.length());
                if (beside) {
                    Due.is("shut", x.isOpen(other, one), 0);
                    Due.is("no other one", x.count(1), 1);
                    Due.ward(x, "shut " + other + " " + one, 1);
                    Due.is("shut yet", x.count(1), 1);
                    Due.ward(x, "open " + other + " " + one, 1);
                    Due.is("open", x.isOpen(one, other), 1);
                    Due.ward(x, "open " + one + " " + other, 1);
                    Due.is("open yet", x.count(1), 0);
                }
                x = other % 8 == 7 ? new SleepWard() : x;
            }
        }
    }

    /** Section 1, "height, a NUMBER (SQUARE), a NUMBER (0 to 9)". */
    private static void heightsOfTheText() {
        SleepWard x = new SleepWard();
        for (int height = 0; height <= 9; height++) {
            Due.ward(x, "height 24 " + height, 1);
            Due.is("height", x.squareOf(24, 0), height);
        }
        fault("height 24 10", 10);
        fault("height 24 ;", 10);
        fault("height 24 at", 10);
        Twins.changes("height 0 3", () -> withTape("height 0 3"), SleepWard::ward, 1, "height 0", "tape", "text");
    }

    /** Section 1, "a LAMP stands there; it is of the RIVER; it isn't": whether that is new or not. */
    private static void lampsAndTheRiverOfTheText() {
        Twins.changes("lamp 0", () -> withTape("lamp 0"), SleepWard::ward, 1, "lamp 0", "tape", "text");
        Twins.changes("lamp 4", () -> withTape("lamp 4"), SleepWard::ward, 1, "tape", "text");
        Twins.changes("river 0", () -> withTape("river 0"), SleepWard::ward, 1, "river 0", "tape", "text");
        Twins.changes("river 24", () -> withTape("river 24"), SleepWard::ward, 1, "tape", "text");
        Twins.changes("dry 24", () -> withTape("dry 24"), SleepWard::ward, 1, "river 24", "tape", "text");
        Twins.changes("dry 0", () -> withTape("dry 0"), SleepWard::ward, 1, "tape", "text");
    }

    /** Section 1, "moon and a NUMBER (0 to 4)". */
    private static void moonsOfTheText() {
        SleepWard x = new SleepWard();
        for (int moon = 4; moon >= 0; moon--) {
            Due.ward(x, "moon " + moon, 1);
            Due.is("moon", x.now(1), moon);
        }
        fault("moon 5", 5);
        fault("moon ;", 5);
        fault("moon moon", 5);
    }

    /** Section 1, "the name of a KIND ..": each of the six, whole; HOME and PLACE. */
    private static void kindsOfTheText() {
        SleepWard x = new SleepWard();
        for (int kind = 0; kind < 6; kind++) {
            Due.ward(x, KINDS[kind] + " at " + (24 - kind), 1);
            int[] want = {kind, 24 - kind, 24 - kind, 0, 0};
            for (int what = 0; what < 5; what++) {
                Due.is(KINDS[kind] + ", part " + what, x.of(kind, what), want[what]);
            }
            String name = KINDS[kind];
            fault(name.substring(1) + " at 1", 0);
            fault(name.substring(0, name.length() - 1) + " at 1", 0);
            fault(name + "s at 1", 0);
            fault(name + " 1", name.length() + 1);
            fault(name + " way 1", name.length() + 1);
            fault(name + " at at 1", name.length() + 4);
            fault(name + " a 1", name.length() + 1);
            fault(name + ";", name.length());
        }
    }

    /** Section 1, "perhaps way and a NUMBER (0 to 3; 0 without)". */
    private static void waysOfTheText() {
        SleepWard x = new SleepWard();
        for (int way = 0; way <= 3; way++) {
            Due.ward(x, "walker at 12 way " + way, 1);
            Due.is("way", x.of(way, 3), way);
        }
        Due.ward(x, "walker at 12;moon 1", 2);
        Due.is("without", x.of(4, 3), 0);
        fault("walker at 12 way 4", 17);
        fault("walker at 12 way ;", 17);
        fault("walker at 12 way", 16);
        fault("walker at 12 ways 1", 13);
        fault("walker at 12 way 1 2", 19);
    }

    /** Section 1, FAULT, "the name of a KIND for a 9th WALKER: its own", whatever comes behind it. */
    private static void aNinthWalker() {
        String eight = "homer at 1;homer at 2;homer at 3;homer at 4;homer at 5;homer at 6;homer at 7;homer at 8";
        SleepWard x = new SleepWard();
        Due.ward(x, eight, 8);
        Due.is("eight", x.count(0), 8);
        fault(eight + "; homer at 9", eight.length() + 2);
        fault(eight + ";homer", eight.length() + 1);
        fault(eight + ";homer at 25", eight.length() + 1);
        fault(eight + ";homer ?", eight.length() + 1);
        for (String name : KINDS) {
            Twins.changes("a 9th: " + name, () -> fullWithTape(name + " at 3"), SleepWard::ward, -1, "tape");
            Twins.changes("a 9th: " + name, () -> fullWithTape("moon 1; " + name), SleepWard::ward, -9, "tape", "text");
        }
        // a fault ahead of it comes first, and one of the eight that was told with it isn't there
        fault("moon 5;" + eight + ";homer at 9", 5);
        SleepWard y = new SleepWard();
        Due.ward(y, eight + ";homer at 9", -2 - eight.length());
        Due.is("none of them", y.count(0), 0);
        // seven and one of the text are eight
        SleepWard z = new SleepWard();
        for (int i = 0; i < 7; i++) {
            z.walker(0, i, 0);
        }
        Due.ward(z, "walker at 0;walker at 1", -13);
        Due.ward(z, "walker at 0", 1);
        Due.ward(z, "walker at 0", -1);
        Due.is("eight", z.count(0), 8);
    }

    private static SleepWard fullWithTape(String text) {
        SleepWard x = Settings.full();
        x.wipe();
        Due.feed(x, text);
        return x;
    }

    /** Section 1, "rounds, one or more NUMBERS (SQUARES, 12 at most)". */
    private static void roundsOfTheText() {
        String text = "rounds";
        for (int many = 1; many <= 12; many++) {
            text += " " + (many * 2);
            SleepWard x = Settings.full();
            x.wipe();
            Due.ward(x, text, 1);
            Due.is("so many", x.count(4), many);
            Due.ward(x, text + ";moon 1", 2);
            Due.is("so many", x.count(4), many);
        }
        fault(text + " 1", text.length() + 1);
        fault(text + " 25", text.length() + 1);
        fault(text + " 1 2", text.length() + 1);
        fault(text + " at", text.length() + 1);
        fault("rounds", 6);
        fault("rounds ;", 7);
        fault("rounds at", 7);
        fault("rounds 1;2", 9);
        fault("round 1", 0);
        fault("rounds 24 25", 10);
    }

    /** Section 1, "ROUNDS are these (THE WATCHER goes to the first of them in the next MINUTE)". */
    private static void roundsBeginAtTheFirst() {
        SleepWard x = Settings.rich();
        x.wipe();
        Due.ward(x, "rounds 5 9 22", 1);
        Due.is("it is where it was", x.now(2), 5);
        int[] to = {5, 9, 22, 5};
        for (int i = 0; i < 4; i++) {
            x.minutes(1);
            Due.is("the first, and on", x.now(2), to[i]);
        }
        // with a fault they go on as they went
        Due.ward(x, "rounds 1 2 3;?", -14);
        x.minutes(1);
        Due.is("and on", x.now(2), 9);
        // one that comes behind them
        Due.ward(x, "rounds 7", 1);
        x.round(8);
        x.minutes(1);
        Due.is("the first", x.now(2), 7);
        x.minutes(1);
        Due.is("the one behind", x.now(2), 8);
    }

    /** Section 1, FAULT, "the first TOKEN that can't stand there": not the one that is worst. */
    private static void theFirstTokenThatCannotStand() {
        fault("moon 9;?", 5);
        fault("moon 1 2;?", 7);
        fault("?;moon 9", 0);
        fault("lamp 25;moon 9", 5);
        fault("moon 1;lamp 25;?", 12);
        fault("foo 99", 0);
        fault("shut 25 99", 5);
        fault("shut 3 ?", 7);
        fault("height ? ?", 7);
        fault("at", 0);
        fault("way 1", 0);
        fault("5", 0);
    }

    /** Promise 34, "whose ITEMS come to what there is": one behind the other, the later ones last. */
    private static void itemsComeToWhatThereIs() {
        SleepWard x = new SleepWard();
        Due.ward(x, "shut 0 1;open 0 1;height 3 1;height 3 2;river 4;dry 4;moon 4;moon 2;rounds 1 2 3;rounds 4", 10);
        Due.is("open", x.count(1), 0);
        Due.is("height", x.squareOf(3, 0), 2);
        Due.is("river", x.count(3), 0);
        Due.is("moon", x.now(1), 2);
        Due.is("rounds", x.count(4), 1);
        Twins.changes("a walker more", () -> withTape("mooner at 24 way 3"), SleepWard::ward, 1, "walkers", "kind 6",
            "home 6", "place 6", "way 6", "awake 6", "tape", "text");
        Twins.changes("a door", () -> withTape("shut 24 23"), SleepWard::ward, 1, "door 23 24", "tape", "text");
    }
}
