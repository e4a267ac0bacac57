import java.util.ArrayList;
import java.util.List;

/**
 * Holds a call at an edge that the document names against its answer and against what it may change. Each call stands
 * on an object of its own, behind a setting; a refused one has a twin beside it, with the setting alone: all that can
 * be seen of the two must be alike, but finding() and findings().
 */
abstract class Edges {
    static final int BAD = -1, FULL = -2, FINDING = -3, STATE = -4, SPENT = -6, NONE = -9;
    static final int NOTHING = 1, BEYOND = 2, UNLIKE = 3, NOUGHT = 4, SIZE = 5;
    static final int LEAST = Integer.MIN_VALUE, MOST = Integer.MAX_VALUE;
    static final int[] NO_WORLD = {-1, 6, LEAST, MOST};
    static final int[] NO_ROW = {-1, 4, LEAST, MOST};

    private static final int WORLDS = 6, ROWS = 4, PLACES = 12, ALL = 45, FINDINGS = 5;
    private static final int GROUPS = 3 + WORLDS;

    /** Calls that go ahead on a new object. */
    interface Setting {
        void on(QuadWorlds x);
    }

    /** The call that is looked at. */
    interface Call {
        long on(QuadWorlds x);
    }

    /** What is asked behind a call that was taken. */
    record Look(String name, Call call, long want) {
    }

    static Look look(String name, Call call, long want) {
        return new Look(name, call, want);
    }

    /** The set of a LINE: how many POINTS, and which. */
    static Look lineIs(int w, int line, int... points) {
        return new Look("LINE " + line + " of " + w, x -> x.points(w, line) == points.length ? x.asked() : -1, bits(points));
    }

    static int[] of(int... numbers) {
        return numbers;
    }

    static long bits(int... places) {
        long set = 0;
        for (int p : places) {
            set |= 1L << p;
        }
        return set;
    }

    static void row(QuadWorlds x, int r, int... places) {
        x.row(r, places.length);
        for (int i = 0; i < places.length; i++) {
            x.lay(r, i, places[i]);
        }
    }

    /** A WORLD told by hand, with the help of ROW 3, which is missing behind it. */
    static void tell(QuadWorlds x, int w, int p, int[]... lines) {
        x.world(w, p);
        for (int[] line : lines) {
            row(x, 3, line);
            x.line(w, 3);
        }
        x.tear(3);
    }

    /** WORLD w is told with P POINTS and as many times the LINE of POINTS 0 and 1. */
    static void tellAlike(QuadWorlds x, int w, int p, int times) {
        x.world(w, p);
        row(x, 3, 0, 1);
        for (int i = 0; i < times; i++) {
            x.line(w, 3);
        }
        x.tear(3);
    }

    /** Nothing goes ahead. */
    static void none(QuadWorlds x) {
    }

    /**
     * One WORLD of each KIND: 0 told (POINT 5 on no LINE), 1 a GRID, 2 a FORM, 3 a MADE one; 4 is missing, 5 has no
     * LINES. ROWS 0 to 2 are there, 3 is missing. asked(), tries() and sent() tell something.
     */
    static void house(QuadWorlds x) {
        tell(x, 0, 6, of(0, 1), of(1, 2, 3), of(3, 4));
        x.grid(1, 3, 4);
        x.form(2, 2);
        x.grid(3, 2, 3);
        x.dual(3, 3);
        x.world(5, 3);
        row(x, 0, 0, 2);
        row(x, 1, 4);
        row(x, 2);
        x.grid(4, 4, 3);
        x.alike(1, 4, 100);
        x.drop(4);
        x.spread(2, 100);
        x.points(2, 14);
    }

    /** The call is taken: it answers so, finds nothing, and what is asked behind it is answered so. */
    static void takes(String name, Setting setting, Call call, long want, Look... looks) {
        QuadWorlds x = begun(setting, 0);
        long[] before = findings(x);
        Due.is(name, want, call.on(x));
        same(name + ", then findings ", before, findings(x));
        for (Look look : looks) {
            Due.is(name + ", then " + look.name(), look.want(), look.call().on(x));
        }
    }

    /** The call is refused without a FINDING: it changes nothing at all. */
    static void refuses(String name, Setting setting, Call call, int answer) {
        changesNothing(name, setting, call, answer, 0, -1);
    }

    /** The call is refused with a FINDING: it changes finding() and one of findings(). */
    static void finds(String name, Setting setting, Call call, int finding) {
        changesNothing(name, setting, call, FINDING, finding, -1);
    }

    /** The call is SPENT: it changes tries() alone, which is n. */
    static void spends(String name, Setting setting, Call call, int n) {
        changesNothing(name, setting, call, SPENT, 0, n);
    }

    private static void changesNothing(String name, Setting setting, Call call, int answer, int finding, int tries) {
        for (int group = 0; group < GROUPS; group++) {
            QuadWorlds called = begun(setting, finding);
            QuadWorlds twin = begun(setting, finding);
            Due.is(name, answer, call.on(called));
            if (group == 0) {
                long[] want = findings(twin);
                if (finding != 0) {
                    want[0] = finding;
                    want[finding]++;
                }
                same(name + ", then findings ", want, findings(called));
            } else if (group == 1) {
                Due.is(name + ", then tries()", tries < 0 ? twin.tries() : tries, called.tries());
                same(name + ", then what is told ", told(twin), told(called));
            } else if (group == 2) {
                same(name + ", then rows ", rows(twin), rows(called));
            } else {
                same(name + ", then world " + (group - 3) + " ", world(twin, group - 3), world(called, group - 3));
            }
        }
    }

    /** The setting, and behind it a FINDING that is not the one that is due, so that a change of it is seen. */
    private static QuadWorlds begun(Setting setting, int finding) {
        QuadWorlds x = new QuadWorlds();
        setting.on(x);
        if (finding == SIZE) {
            x.lay(0, PLACES, 0);
        } else {
            x.row(3, -1);
        }
        return x;
    }

    private static long[] findings(QuadWorlds x) {
        long[] all = new long[1 + FINDINGS];
        all[0] = x.finding();
        for (int f = 1; f <= FINDINGS; f++) {
            all[f] = x.findings(f);
        }
        return all;
    }

    private static long[] told(QuadWorlds x) {
        List<Long> all = new ArrayList<>();
        all.add(x.digest());
        all.add(x.asked());
        for (int what = 0; what < 4; what++) {
            all.add((long) x.count(what));
        }
        for (int p = -1; p <= ALL; p++) {
            all.add((long) x.sent(p));
        }
        return array(all);
    }

    private static long[] rows(QuadWorlds x) {
        List<Long> all = new ArrayList<>();
        for (int r = 0; r < ROWS; r++) {
            for (int i = 0; i <= PLACES; i++) {
                all.add((long) x.lay(r, i, 0));
            }
        }
        return array(all);
    }

    private static long[] world(QuadWorlds x, int w) {
        List<Long> all = new ArrayList<>();
        for (int what = 0; what < 5; what++) {
            all.add((long) x.told(w, what));
        }
        for (int kind = 1; kind < 4; kind++) {
            all.add((long) x.mark(w, kind));
        }
        int p = x.told(w, 1);
        int l = x.told(w, 2);
        for (int i = 0; i < l; i++) {
            all.add((long) x.points(w, i));
            all.add(x.asked());
        }
        for (int i = 0; i < p; i++) {
            all.add((long) x.lines(w, i));
            all.add(x.asked());
            all.add((long) x.perp(w, 1L << i));
            all.add(x.asked());
        }
        return array(all);
    }

    private static long[] array(List<Long> list) {
        long[] all = new long[list.size()];
        for (int i = 0; i < all.length; i++) {
            all[i] = list.get(i);
        }
        return all;
    }

    private static void same(String name, long[] want, long[] got) {
        Due.is(name + "(how many)", want.length, got.length);
        for (int i = 0; i < want.length && i < got.length; i++) {
            Due.is(name + i, want[i], got[i]);
        }
    }
}
