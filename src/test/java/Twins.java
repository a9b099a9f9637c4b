import java.util.ArrayList;
import java.util.List;

/**
 * Two objects made alike, of which one alone gets a call that must leave all as it was: whatever is asked
 * of both behind it has like answers.
 */
final class Twins {
    /** A call, a boolean answer counting 1 or 0. */
    interface Call {
        long on(SpongeClerks x);
    }

    /** Makes an object, and another one alike each time it is asked. */
    interface Maker {
        SpongeClerks make();
    }

    private Twins() {
    }

    /** Refused with this answer, counted by status(counter) alone; the tape stays. */
    static void refused(String what, Maker maker, Call call, long answer, int counter) {
        compare(what, maker, call, answer, counter, false, true);
    }

    /** As above, but the tape goes. */
    static void refusedWithTape(String what, Maker maker, Call call, long answer, int counter) {
        compare(what, maker, call, answer, counter, true, true);
    }

    /** As above, but the call tells a FAULT of its own. */
    static void refusedWithFault(String what, Maker maker, Call call, long answer, int counter) {
        compare(what, maker, call, answer, counter, true, false);
    }

    /** A call that only looks: it is not counted (counter NONE), and all stays. */
    static void looks(String what, Maker maker, Call call, long answer) {
        compare(what, maker, call, answer, -1, false, true);
    }

    private static void compare(String what, Maker maker, Call call, long answer, int counter, boolean tapeGoes, boolean faultStays) {
        SpongeClerks x = maker.make();
        SpongeClerks y = maker.make();
        Edge.due(what, call.on(x), answer);
        if (tapeGoes) {
            Edge.due(what + ": the tape goes", x.end(0) && !x.end(1), true);
            y.end(0);
            y.end(1);
        }
        for (int k = 0; k < 6; k++) {
            Edge.due(what + ": status(" + k + ")", x.status(k), y.status(k) + (k == counter ? 1 : 0));
        }
        if (faultStays) {
            Edge.due(what + ": fault(0) stays", x.fault(0), y.fault(0));
            Edge.due(what + ": fault(1) stays", x.fault(1), y.fault(1));
        }
        alike(what, x, y);
    }

    /** Both answer alike to whatever can be asked of them, the refusals so far and the latest FAULT left out. */
    static void alike(String what, SpongeClerks x, SpongeClerks y) {
        alike(what, x, y, true);
    }

    static void alike(String what, SpongeClerks x, SpongeClerks y, boolean imagesToo) {
        List<String> names = new ArrayList<>();
        List<Long> got = new ArrayList<>();
        probe(x, names, got, imagesToo);
        List<Long> want = new ArrayList<>();
        probe(y, new ArrayList<>(), want, imagesToo);
        Edge.due(what + ": as many answers", got.size(), want.size());
        for (int k = 0; k < Math.min(got.size(), want.size()); k++) {
            Edge.due(what + ": " + names.get(k), got.get(k), want.get(k));
        }
    }

    private static void probe(SpongeClerks x, List<String> names, List<Long> all, boolean imagesToo) {
        int size = x.feed(0, 0, 0, 0, 0) - 20;
        note("bytes on the tape", size, names, all);
        x.end(Math.max(0, size));
        note("ask() of the tape", x.ask(), names, all);
        int matters = Math.max(0, x.has(1));
        int clerks = Math.max(0, x.has(2));
        for (int k = 0; k < 10; k++) {
            note("has(" + k + ")", x.has(k), names, all);
        }
        for (int k = 0; imagesToo && k < 26; k++) {
            note("octet(" + k + ")", x.octet(k), names, all);
        }
        for (int c = 0; c < clerks; c++) {
            note("room", x.clerk(c, 1), names, all);
            note("leak", x.leak(c, 1, 0), names, all);
            note("later", x.later(c, 0, 3), names, all);
            note("letter", x.letter(1, c, 0), names, all);
        }
        for (int m = 0; m < matters; m++) {
            note("letter", x.letter(0, m, 0), names, all);
            note("sources", x.sources(m, 3), names, all);
        }
        for (int k = 0; k < Math.min(4, x.has(7)); k++) {
            note("kept DAY", x.kept(k, 0), names, all);
            note("kept drops", x.kept(k, 1), names, all);
            note("kept FULL", x.kept(k, 2), names, all);
        }
        room(x, names, all, clerks, matters);
        note("chance(2): the seed, hand and shakes", x.chance(2), names, all);
        room(x, names, all, clerks, matters);
        for (int k = 0; k < 6; k++) {
            note("undo()", x.undo() ? 1 : 0, names, all);
            note("has(7)", x.has(7), names, all);
            room(x, names, all, clerks, matters);
        }
    }

    private static void room(SpongeClerks x, List<String> names, List<Long> all, int clerks, int matters) {
        note("DAY", x.has(3), names, all);
        for (int c = 0; c < clerks; c++) {
            note("seat", x.clerk(c, 0), names, all);
            for (int m = 0; m < matters; m++) {
                note("drops", x.drops(c, m), names, all);
            }
        }
        for (int m = 0; m < matters; m++) {
            for (int where = 1; where <= 3; where++) {
                note("matter(" + m + ", " + where + ")", x.matter(m, where), names, all);
            }
        }
    }

    private static void note(String name, long answer, List<String> names, List<Long> all) {
        names.add(name);
        all.add(answer);
    }
}
