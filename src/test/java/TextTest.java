/** Promises 32 to 34: the text. */
public final class TextTest {
    public static void main(String[] args) {
        promise32();
        promise33();
        items();
        tokens();
        faults();
        walkersOfTheText();
        roundsOfTheText();
        aFaultChangesNothing();
        Due.end();
    }

    private static void promise32() {
        SleepWard x = new SleepWard();
        Due.is("n", x.feed(0, 0), Due.BEYOND);
        Due.is("n", x.feed(0, -1), Due.BEYOND);
        Due.is("n", x.feed(0, 5), Due.BEYOND);
        Due.is("one", x.feed('m', 1), 1);
        Due.is("two", x.feed('o' << 8 | 'o', 2), 3);
        Due.is("three", x.feed(0x55000000 | 'n' << 16 | ' ' << 8 | '3', 3), 6);
        Due.is("ward", x.ward(), 1);
        Due.is("moon", x.now(1), 3);
        for (int i = 1; i <= 29; i++) {
            Due.is("four", x.feed(0x20202020, 4), 4 * i);
        }
        Due.is("three", x.feed(0x20202020, 3), 119);
        Due.is("full", x.feed(0x20202020, 2), Due.FULL);
        Due.is("beyond first", x.feed(0x20202020, 5), Due.BEYOND);
        Due.is("as it was", x.count(5), 119);
        Due.is("one", x.feed(0x20, 1), 120);
        Due.is("full", x.feed(0x20, 1), Due.FULL);
        Due.is("as it was", x.count(5), 120);
        Due.is("blanks alone", x.ward(), -121);
    }

    private static void promise33() {
        SleepWard x = new SleepWard();
        Due.is("empty", x.wipe(), 0);
        Due.feed(x, "moon 9");
        Due.is("wipe", x.wipe(), 6);
        Due.is("wipe", x.wipe(), 0);
        Due.is("count", x.count(5), 0);
        Due.ward(x, "moon 4", 1);
        Due.is("moon", x.now(1), 4);
    }

    private static void items() {
        SleepWard x = new SleepWard();
        Due.ward(x, "shut 7 12;shut 12 13;open 13 12;height 0 0;height 24 9;lamp 0;lamp 24", 7);
        Due.is("shut", x.isOpen(12, 7), 0);
        Due.is("open", x.isOpen(12, 13), 1);
        Due.is("shut doors", x.count(1), 1);
        Due.is("height", x.squareOf(0, 0), 0);
        Due.is("height", x.squareOf(24, 0), 9);
        Due.is("lamps", x.count(2), 2);
        Due.is("lamp", x.squareOf(24, 1), 1);
        Due.ward(x, "river 24;river 3;dry 24;dry 9;moon 0;moon 4;lamp 0", 7);
        Due.is("river", x.count(3), 1);
        Due.is("river", x.squareOf(3, 2), 1);
        Due.is("moon", x.now(1), 4);
        Due.is("lamps", x.count(2), 2);
        Due.is("the ward stays", x.squareOf(24, 0), 9);
        Due.ward(x, "moon 0", 1);
        Due.is("moon", x.now(1), 0);
        Due.ward(x, "open 7 12", 1);
        Due.is("open", x.count(1), 0);
    }

    private static void tokens() {
        SleepWard x = new SleepWard();
        Due.ward(x, "  moon2  ;  shut0 1;walker at3way2  ", 3);
        Due.is("moon", x.now(1), 2);
        Due.is("shut", x.isOpen(0, 1), 0);
        Due.is("way", x.of(0, 3), 2);
        Due.ward(x, "moon 0003", 1);
        Due.is("moon", x.now(1), 3);
        Due.ward(x, "moon 00000000000000000000000000000000000001", 1);
        Due.is("moon", x.now(1), 1);
        Due.ward(x, "moon 4294967298", -6);
        Due.ward(x, "moon 18446744073709551618", -6);
        Due.ward(x, "moon 9999", -6);
        Due.ward(x, "moon 10000", -6);
        Due.ward(x, "mo on 1", -1);
        Due.ward(x, "moons 1", -1);
        Due.ward(x, "moonz 1", -1);
        Due.ward(x, "amoon 1", -1);
        Due.ward(x, "coon 1", -1);
        Due.ward(x, "moom 1", -1);
        Due.ward(x, "talker at 1", -1);
        Due.ward(x, "Moon 1", -1);
        Due.ward(x, "moon\t1", -5);
        Due.ward(x, "moon -1", -6);
        Due.ward(x, "moon 1.", -7);
        Due.ward(x, "moon 1 2", -8);
        Due.ward(x, "moon 1 moon", -8);
        Due.ward(x, "moon 1a", -7);
        Due.is("moon", x.now(1), 1);
        x.feed(0xE1, 1);
        Due.is("a byte above 127", x.ward(), -1);
        x.feed(0, 1);
        Due.is("a byte of 0", x.ward(), -1);
        for (int b = 0; b < 256; b++) {
            SleepWard y = new SleepWard();
            Due.feed(y, "moon 2");
            y.feed(b, 1);
            boolean isDigit = b >= '0' && b <= '9';
            Due.is("byte " + b, y.ward(), b == ' ' ? 1 : isDigit ? -6 : b == ';' ? -8 : -7);
        }
    }

    private static void faults() {
        SleepWard x = new SleepWard();
        Due.ward(x, "", -1);
        Due.ward(x, "   ", -4);
        Due.ward(x, ";", -1);
        Due.ward(x, " ;moon 1", -2);
        Due.ward(x, "moon 1;", -8);
        Due.ward(x, "moon 1; ", -9);
        Due.ward(x, "moon 1;;moon 1", -8);
        Due.ward(x, "12", -1);
        Due.ward(x, "at 12", -1);
        Due.ward(x, "shut", -5);
        Due.ward(x, "shut ", -6);
        Due.ward(x, "shut 1", -7);
        Due.ward(x, "shut 25 24", -6);
        Due.ward(x, "shut 24 25", -9);
        Due.ward(x, "shut 4 5", -8);
        Due.ward(x, "shut 4 4", -8);
        Due.ward(x, "shut 4 moon", -8);
        Due.ward(x, "shut 4;3", -7);
        Due.ward(x, "open 0 6", -8);
        Due.ward(x, "open open", -6);
        Due.ward(x, "height 25 0", -8);
        Due.ward(x, "height 24 10", -11);
        Due.ward(x, "height 24", -10);
        Due.ward(x, "lamp 25", -6);
        Due.ward(x, "lamp", -5);
        Due.ward(x, "lamp 1 1", -8);
        Due.ward(x, "river 25", -7);
        Due.ward(x, "dry 25", -5);
        Due.ward(x, "dry", -4);
        Due.ward(x, "moon 5", -6);
        Due.ward(x, "moon x", -6);
        Due.ward(x, "moon 1;;", -8);
        Due.is("no findings", x.status(-1), 0);
    }

    private static void walkersOfTheText() {
        SleepWard x = new SleepWard();
        Due.ward(x, "walker at 0;sloper at 1 way 1;lamper at 2 way 2;homer at 3 way 3;wanderer at 4 way 0", 5);
        Due.ward(x, "mooner at 24", 1);
        for (int i = 0; i < 6; i++) {
            Due.is("kind", x.of(i, 0), i);
            Due.is("home", x.of(i, 1), i == 5 ? 24 : i);
            Due.is("place", x.of(i, 2), i == 5 ? 24 : i);
            Due.is("way", x.of(i, 3), i % 4 * (i < 4 ? 1 : 0));
            Due.is("awake", x.of(i, 4), 0);
        }
        Due.ward(x, "walker", -7);
        Due.ward(x, "walker 12", -8);
        Due.ward(x, "walker at", -10);
        Due.ward(x, "walker at 25", -11);
        Due.ward(x, "walker at 2 2", -13);
        Due.ward(x, "walker at 2 at", -13);
        Due.ward(x, "walker at 2 way", -16);
        Due.ward(x, "walker at 2 way;", -16);
        Due.ward(x, "walker at 2 way 4", -17);
        Due.ward(x, "walker at 2 way 1 way 1", -19);
        Due.ward(x, "walkers at 2", -1);
        Due.ward(x, "sloper way 2 at 1", -8);
        Due.is("none of them", x.count(0), 6);
        // a 9th has its fault at its own name, even if more is wrong behind it
        Due.ward(x, "walker at 0;homer at 1; mooner at 2", -25);
        Due.is("none of them", x.count(0), 6);
        Due.ward(x, "walker at 0;homer at 1;moon 9;mooner at 2", -29);
        Due.ward(x, "walker at 20;homer at 21", 2);
        Due.is("eight", x.count(0), 8);
        Due.is("kind", x.of(7, 0), 3);
        Due.ward(x, "walker", -1);
        Due.ward(x, "moon 1;sloper at 77", -8);
    }

    private static void roundsOfTheText() {
        SleepWard x = new SleepWard();
        x.round(20);
        x.round(21);
        x.minutes(1);
        Due.ward(x, "rounds 0 1 2 3 4 5 6 7 8 9 10 24", 1);
        Due.is("twelve", x.count(4), 12);
        Due.is("at 20 yet", x.now(2), 20);
        for (int i = 0; i < 12; i++) {
            x.minutes(1);
            Due.is("watcher", x.now(2), i == 11 ? 24 : i);
        }
        Due.ward(x, "rounds 0 1 2 3 4 5 6 7 8 9 10 11 12", -34);
        Due.ward(x, "rounds", -7);
        Due.ward(x, "rounds;", -7);
        Due.ward(x, "rounds 1 25 3", -10);
        Due.ward(x, "rounds 1 x", -10);
        Due.is("twelve", x.count(4), 12);
        x.minutes(1);
        Due.is("and on", x.now(2), 0);
        Due.ward(x, "rounds 7;rounds 8 9", 2);
        Due.is("these", x.count(4), 2);
        x.minutes(1);
        Due.is("the first", x.now(2), 8);
    }

    private static void aFaultChangesNothing() {
        SleepWard x = Due.told("walker at 3 way 1;rounds 5 6;moon 3");
        x.minutes(1);
        Due.ward(x, "shut 0 1;height 3 9;lamp 4;river 24;moon 2;homer at 11;rounds 9 9 9;moon 5", -74);
        Due.is("shut", x.count(1), 0);
        Due.is("height", x.squareOf(3, 0), 5);
        Due.is("lamps", x.count(2), 0);
        Due.is("river", x.count(3), 0);
        Due.is("moon", x.now(1), 3);
        Due.is("walkers", x.count(0), 1);
        Due.is("rounds", x.count(4), 2);
        x.minutes(1);
        Due.is("rounds go on", x.now(2), 6);
        Due.is("no finding", x.status(-1), 0);
        // items come in their order
        Due.ward(x, "moon 1;river 4;dry 4;river 5;moon 2", 5);
        Due.is("moon", x.now(1), 2);
        Due.is("river", x.count(3), 1);
    }
}
