/** What the tests share: answers that are due, the findings, texts for the tape. */
final class Due {
    static final int BEYOND = -1000000001;
    static final int FULL = -1000000002;
    static final int KIND = -1000000003;
    static final int NONE = -1000000004;
    static final int STATE = -1000000005;
    static final int MISSING = -1000000006;
    static final int SIZE = -1000000007;

    private static int wrong = 0;
    private static int asked = 0;

    private Due() {
    }

    static void is(String call, long got, long want) {
        asked++;
        if (got != want) {
            wrong++;
            System.out.println(call + " answered " + got + ", due is " + want);
        }
    }

    static void end() {
        System.out.println(asked + " answers, " + wrong + " not as due");
        if (wrong != 0) {
            System.exit(1);
        }
    }

    static void feed(SleepWard x, String text) {
        int had = x.count(5);
        for (int i = 0; i < text.length(); i += 4) {
            int n = Math.min(4, text.length() - i);
            int bytes = 0;
            for (int j = 0; j < n; j++) {
                bytes = bytes << 8 | text.charAt(i + j);
            }
            is("feed of '" + text + "' at " + i, x.feed(bytes, n), had + i + n);
        }
    }

    static void ward(SleepWard x, String text, int want) {
        feed(x, text);
        is("ward() of '" + text + "'", x.ward(), want);
        is("the tape behind '" + text + "'", x.count(5), 0);
    }

    /** A new object whose ward a text tells. */
    static SleepWard told(String text) {
        SleepWard x = new SleepWard();
        ward(x, text, text.split(";").length);
        return x;
    }

    static void places(SleepWard x, int walker, int... want) {
        for (int n = 0; n < want.length; n++) {
            is("on(" + walker + ", " + n + ")", x.on(walker, n), want[n]);
        }
    }
}
