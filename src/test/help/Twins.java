import java.util.Map;
import java.util.Objects;
import java.util.Set;
import java.util.TreeMap;
import java.util.TreeSet;

/**
 * Lays an object beside its twin that was made alike: all that calls can tell of it, with one act more and without.
 * What can be told only by changing it is asked of objects made anew, so that no object has more than 512 calls.
 */
final class Twins {
    interface Making {
        SleepWard make();
    }

    interface Act {
        long on(SleepWard x);
    }

    interface ActOf {
        long on(SleepWard x, int walker);
    }

    /** Has all its 64 bits in use, so that what comes back tells how many a sheet keeps. */
    private static final long WIDE = 0x7123456789ABCDEFL;

    private Twins() {
    }

    /** The act answers a finding, which is counted, and nothing else changes. */
    static void refuses(String call, Making making, Act act, int finding) {
        String own = "status " + (Due.BEYOND - finding);
        Map<String, Long> without = state(making, null, call, 0);
        Map<String, Long> with = state(making, act, call, finding);
        differ(call, without, with, Set.of("status -1", own));
        Due.is(call + ": " + own, with.get(own), without.get(own) + 1);
        Due.is(call + ": status -1", with.get("status -1"), without.get("status -1") + 1);
    }

    /** The act is BEYOND for each number that is no walker's: of none, of six and of eight. */
    static void refusesWalkers(String name, ActOf act) {
        refuses(name + " with nobody there", SleepWard::new, x -> act.on(x, 0), Due.BEYOND);
        for (int walker : Settings.outside(0, 5)) {
            refuses(name + " of walker " + walker, Settings::rich, x -> act.on(x, walker), Due.BEYOND);
        }
        for (int walker : Settings.outside(0, 7)) {
            refuses(name + " of walker " + walker, Settings::full, x -> act.on(x, walker), Due.BEYOND);
        }
    }

    /** The act has an answer, and nothing changes. */
    static void keeps(String call, Making making, Act act, long want) {
        changes(call, making, act, want);
    }

    /** The act has an answer, and what has these names changes, nothing else. */
    static void changes(String call, Making making, Act act, long want, String... names) {
        differ(call, state(making, null, call, 0), state(making, act, call, want), Set.of(names));
    }

    private static void differ(String call, Map<String, Long> one, Map<String, Long> other, Set<String> names) {
        Set<String> all = new TreeSet<>(one.keySet());
        all.addAll(other.keySet());
        Set<String> changed = new TreeSet<>();
        for (String name : all) {
            if (!Objects.equals(one.get(name), other.get(name))) {
                changed.add(name);
            }
        }
        Set<String> due = new TreeSet<>(names);
        Due.is(call + " changes " + changed + ", due is " + due, changed.equals(due) ? 1 : 0, 1);
    }

    private static Map<String, Long> state(Making making, Act act, String call, long want) {
        Map<String, Long> told = new TreeMap<>();
        for (int part = 0; part < 3; part++) {
            SleepWard x = making.make();
            if (act != null) {
                Due.is(call, act.on(x), want);
            }
            if (part == 0) {
                tellStatus(x, told);
                tellWard(x, told, "");
            } else if (part == 1) {
                tellSheets(x, told);
                tellTape(x, told);
            } else {
                long kept = x.undo();
                told.put("kept", kept);
                if (kept >= 0) {
                    tellWard(x, told, "kept ");
                }
            }
        }
        return told;
    }

    private static void tellStatus(SleepWard x, Map<String, Long> told) {
        for (int which = -1; which < 7; which++) {
            told.put("status " + which, (long) x.status(which));
        }
    }

    private static void tellWard(SleepWard x, Map<String, Long> told, String kept) {
        String[] marks = {"height ", "lamp ", "river "};
        for (int square = 0; square < 25; square++) {
            for (int what = 0; what < 3; what++) {
                told.put(kept + marks[what] + square, (long) x.squareOf(square, what));
            }
            if (square % 5 < 4) {
                told.put(kept + "door " + square + " " + (square + 1), (long) x.isOpen(square, square + 1));
            }
            if (square < 20) {
                told.put(kept + "door " + square + " " + (square + 5), (long) x.isOpen(square, square + 5));
            }
        }
        String[] parts = {"kind ", "home ", "place ", "way ", "awake "};
        int walkers = x.count(0);
        told.put(kept + "walkers", (long) walkers);
        for (int walker = 0; walker < walkers; walker++) {
            for (int what = 0; what < 5; what++) {
                told.put(kept + parts[what] + walker, (long) x.of(walker, what));
            }
        }
        told.put(kept + "minute", (long) x.now(0));
        told.put(kept + "moon", (long) x.now(1));
        told.put(kept + "watcher", (long) x.now(2));
        told.put(kept + "z", (long) x.count(6));
        told.put(kept + "rounds", (long) x.count(4));
        x.bed();
        for (int i = 1; i <= 13; i++) {
            x.minutes(1);
            told.put(kept + "round " + i, (long) x.now(2));
        }
    }

    private static void tellSheets(SleepWard x, Map<String, Long> told) {
        for (int s = 0; s < 4; s++) {
            for (int i = 0; i <= 40; i++) {
                long was = x.write(s, i, WIDE);
                told.put("number " + s + " " + i, was);
            }
            told.put("bits " + s, x.write(s, 0, 0));
        }
    }

    private static void tellTape(SleepWard x, Map<String, Long> told) {
        told.put("tape", (long) x.count(5));
        told.put("text", (long) x.ward());
        told.put("moon of the text", (long) x.now(1));
    }
}
