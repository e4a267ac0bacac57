/** Long runs of calls, chosen by a fixed rule of numbers, on QuadWorlds and on the Model; each answer is held against it. */
public final class OracleTest {
    private static final int RUNS = 1500, CALLS = 450;
    private static long state;
    private static QuadWorlds x;
    private static Model m;
    private static int calls;

    public static void main(String[] args) {
        for (int run = 0; run < RUNS; run++) {
            state = 88172645463325252L + 7919L * run;
            x = new QuadWorlds();
            m = new Model();
            calls = 0;
            while (calls < CALLS) {
                step("run " + run + ", call " + calls + ": ", run);
            }
            is("run " + run + ": the digest behind it", m.digest(), x.digest());
        }
        Due.end("OracleTest");
    }

    private static int pick(int n) {
        state ^= state << 13;
        state ^= state >>> 7;
        state ^= state << 17;
        return (int) Math.floorMod(state >>> 11, (long) n);
    }

    private static void is(String call, long want, long got) {
        calls++;
        Due.is(call, want, got);
    }

    private static final int[] ODD = {-1, 6, 7, -9, Integer.MIN_VALUE, Integer.MAX_VALUE, 45, 63, 64, 100, 4, 5};

    /** A number below n, now and then one that is none. */
    private static int some(int n) {
        return pick(24) == 0 ? ODD[pick(ODD.length)] : pick(n);
    }

    /** A WORLD's number; most calls go to the first three. */
    private static int w() {
        return pick(4) == 0 ? some(6) : some(3);
    }

    /** A POINT: mostly one of the WORLD, if it is there. */
    private static int point(int w) {
        int p = w < 0 || w > 5 ? -1 : m.sizeOf(w);
        return p < 1 || pick(16) == 0 ? some(46) : pick(p);
    }

    private static long bits(int w) {
        int p = w < 0 || w > 5 ? 10 : Math.max(2, m.sizeOf(w));
        long set = 0;
        int density = 1 + pick(6);
        for (int i = 0; i < p; i++) {
            if (pick(density) == 0) {
                set |= 1L << i;
            }
        }
        int way = pick(30);
        return way == 0 ? set | 1L << pick(64) : way == 1 ? 0 : way == 2 ? (1L << p) - 1 : way == 3 ? -1L : way == 4 ? 1L << p : set;
    }

    private static int tries() {
        int way = pick(20);
        return way == 0 ? some(3) - 1 : way == 1 ? 100000 + pick(2) : way < 8 ? 1 + pick(30) : 1 + pick(400);
    }

    private static void step(String at, int run) {
        int way = pick(100);
        if (way < 12) {
            rows(at);
        } else if (way < 34) {
            make(at, run);
        } else if (way < 62) {
            ask(at);
        } else if (way < 86) {
            seek(at);
        } else {
            look(at);
        }
        int after = pick(6);
        if (after == 0) {
            is(at + "asked()", m.asked(), x.asked());
        } else if (after == 1) {
            is(at + "finding()", m.finding(), x.finding());
        } else if (after == 2) {
            is(at + "digest()", m.digest(), x.digest());
        } else if (after == 3) {
            is(at + "tries()", m.tries(), x.tries());
        }
    }

    private static void rows(String at) {
        int r = some(4);
        int r2 = some(4);
        int n = pick(12) == 0 ? 11 + pick(3) : pick(30) == 0 ? -1 - pick(2) : pick(5);
        int i = some(6) - pick(2);
        int j = some(6);
        int v = pick(40) == 0 ? Integer.MAX_VALUE - pick(1500) : pick(20) == 0 ? ODD[pick(ODD.length)] : pick(12);
        switch (pick(8)) {
            case 0:
                is(at + "row(" + r + ", " + n + ")", m.row(r, n), x.row(r, n));
                break;
            case 1:
                is(at + "tear(" + r + ")", m.tear(r), x.tear(r));
                break;
            case 2:
                is(at + "copy(" + r + ", " + i + ", " + r2 + ", " + j + ", " + n + ")", m.copy(r, i, r2, j, n),
                    x.copy(r, i, r2, j, n));
                break;
            default:
                is(at + "lay(" + r + ", " + i + ", " + v + ")", m.lay(r, i, v), x.lay(r, i, v));
        }
    }

    private static void make(String at, int run) {
        int w = w();
        int to = w();
        switch (pick(14)) {
            case 0: {
                int p = pick(10) == 0 ? 44 + pick(3) : pick(9);
                is(at + "world(" + w + ", " + p + ")", m.world(w, p), x.world(w, p));
                break;
            }
            case 1: {
                int a = pick(12) == 0 ? some(9) : 2 + pick(3);
                int b = pick(12) == 0 ? some(9) : 2 + pick(3);
                is(at + "grid(" + w + ", " + a + ", " + b + ")", m.grid(w, a, b), x.grid(w, a, b));
                break;
            }
            case 2: {
                int q = run % 5 == 0 && pick(8) == 0 ? 3 : pick(6) == 0 ? some(6) & ~1 : 2;
                is(at + "form(" + w + ", " + q + ")", m.form(w, q), x.form(w, q));
                break;
            }
            case 3:
                is(at + "dual(" + w + ", " + to + ")", m.dual(w, to), x.dual(w, to));
                break;
            case 4: {
                int p = point(w);
                is(at + "derive(" + w + ", " + p + ", " + to + ")", m.derive(w, p, to), x.derive(w, p, to));
                break;
            }
            case 5: {
                long set = bits(w);
                is(at + "part(" + w + ", " + set + ", " + to + ")", m.part(w, set, to), x.part(w, set, to));
                break;
            }
            case 6: {
                int v = pick(3) == 0 ? w : some(6);
                is(at + "drop(" + v + ")", m.drop(v), x.drop(v));
                break;
            }
            default:
                tellLine(at, w);
        }
    }

    /** A LINE told with a row laid for it. */
    private static void tellLine(String at, int w) {
        int r = some(4);
        int n = 2 + pick(3);
        if (pick(5) != 0) {
            is(at + "row(" + r + ", " + n + ")", m.row(r, n), x.row(r, n));
            for (int i = 0; i < n; i++) {
                int v = point(w);
                is(at + "lay(" + r + ", " + i + ", " + v + ")", m.lay(r, i, v), x.lay(r, i, v));
            }
        }
        for (int times = pick(40) == 0 ? 46 : 1 + pick(2); times > 0; times--) {
            is(at + "line(" + w + ", " + r + ")", m.line(w, r), x.line(w, r));
        }
    }

    private static void ask(String at) {
        int w = w();
        int a = point(w);
        int b = point(w);
        int c = point(w);
        long set = bits(w);
        boolean most = pick(2) == 0;
        switch (pick(13)) {
            case 0: {
                int what = some(5);
                is(at + "told(" + w + ", " + what + ")", m.told(w, what), x.told(w, what));
                break;
            }
            case 1: {
                int kind = some(4);
                is(at + "mark(" + w + ", " + kind + ")", m.mark(w, kind), x.mark(w, kind));
                break;
            }
            case 2:
                is(at + "points(" + w + ", " + a + ")", m.points(w, a), x.points(w, a));
                break;
            case 3:
                is(at + "lines(" + w + ", " + a + ")", m.lines(w, a), x.lines(w, a));
                break;
            case 4:
                is(at + "fault(" + w + ")", m.fault(w), x.fault(w));
                break;
            case 5:
                is(at + "mean(" + w + ")", m.mean(w), x.mean(w));
                break;
            case 6:
                is(at + "perp(" + w + ", " + set + ")", m.perp(w, set), x.perp(w, set));
                break;
            case 7:
                is(at + "span(" + w + ", " + a + ", " + b + ")", m.span(w, a, b), x.span(w, a, b));
                break;
            case 8:
                is(at + "regular(" + w + ", " + a + ")", m.regular(w, a), x.regular(w, a));
                break;
            case 9:
                is(at + "centres(" + w + ", " + a + ", " + b + ", " + c + ")", m.centres(w, a, b, c), x.centres(w, a, b, c));
                break;
            case 10:
                is(at + "meets(" + w + ", " + set + ", " + most + ")", m.meets(w, set, most), x.meets(w, set, most));
                break;
            case 11: {
                int r = pick(5) == 0 ? some(8) : new int[] {2, 3, 5}[pick(3)];
                is(at + "rank(" + w + ", " + r + ")", m.rank(w, r), x.rank(w, r));
                break;
            }
            default:
                is(at + "far(" + w + ", " + a + ", " + b + ")", m.far(w, a, b), x.far(w, a, b));
        }
    }

    private static void seek(String at) {
        int w = w();
        int v = pick(3) == 0 ? w : w();
        int n = tries();
        switch (pick(5)) {
            case 0:
                is(at + "ovoid(" + w + ", " + n + ")", m.ovoid(w, n), x.ovoid(w, n));
                break;
            case 1:
                is(at + "spread(" + w + ", " + n + ")", m.spread(w, n), x.spread(w, n));
                break;
            case 2:
                is(at + "ovoids(" + w + ", " + n + ")", m.ovoids(w, n), x.ovoids(w, n));
                break;
            default:
                n = n > 2000 ? 2000 : n;
                is(at + "alike(" + w + ", " + v + ", " + n + ")", m.alike(w, v, n), x.alike(w, v, n));
        }
        is(at + "tries() behind it", m.tries(), x.tries());
        is(at + "asked() behind it", m.asked(), x.asked());
    }

    private static void look(String at) {
        int a = some(6);
        switch (pick(7)) {
            case 0: {
                int p = some(46) - pick(2);
                is(at + "sent(" + p + ")", m.sent(p), x.sent(p));
                break;
            }
            case 1:
                is(at + "asked()", m.asked(), x.asked());
                break;
            case 2:
                is(at + "count(" + a + ")", m.count(a), x.count(a));
                break;
            case 3:
                is(at + "finding()", m.finding(), x.finding());
                break;
            case 4:
                is(at + "findings(" + a + ")", m.findings(a), x.findings(a));
                break;
            case 5:
                is(at + "digest()", m.digest(), x.digest());
                break;
            default:
                is(at + "tries()", m.tries(), x.tries());
        }
    }
}
