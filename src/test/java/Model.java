import java.util.ArrayList;
import java.util.Arrays;
import java.util.Collections;
import java.util.List;
import java.util.TreeSet;

/**
 * The document once more, read word by word and as slow as it likes: lists of sets, nothing kept that can be worked
 * out again. OracleTest holds QuadWorlds against it.
 */
final class Model {
    private static final int BAD = -1, FULL = -2, FINDING = -3, STATE = -4, SPENT = -6, NONE = -9;
    private static final int NOTHING = 1, BEYOND = 2, UNLIKE = 3, NOUGHT = 4, SIZE = 5;

    private static final class W {
        int kind;
        int p;
        int mark;
        List<TreeSet<Integer>> lines = new ArrayList<>();

        W(int kind, int p) {
            this.kind = kind;
            this.p = p;
        }

        boolean near(int x, int y) {
            if (x == y) {
                return true;
            }
            for (TreeSet<Integer> line : lines) {
                if (line.contains(x) && line.contains(y)) {
                    return true;
                }
            }
            return false;
        }

        List<Integer> through(int x) {
            List<Integer> all = new ArrayList<>();
            for (int i = 0; i < lines.size(); i++) {
                if (lines.get(i).contains(x)) {
                    all.add(i);
                }
            }
            return all;
        }

        TreeSet<Integer> perp(Iterable<Integer> set) {
            TreeSet<Integer> all = new TreeSet<>();
            for (int q = 0; q < p; q++) {
                boolean is = true;
                for (int x : set) {
                    is &= near(q, x);
                }
                if (is) {
                    all.add(q);
                }
            }
            return all;
        }

        TreeSet<Integer> span(int x, int y) {
            return perp(perp(List.of(x, y)));
        }

        int s() {
            TreeSet<Integer> sizes = new TreeSet<>();
            for (TreeSet<Integer> line : lines) {
                sizes.add(line.size());
            }
            return sizes.size() == 1 ? sizes.first() - 1 : NONE;
        }

        int t() {
            TreeSet<Integer> sizes = new TreeSet<>();
            for (int x = 0; x < p; x++) {
                sizes.add(through(x).size());
            }
            return !lines.isEmpty() && sizes.size() == 1 ? sizes.first() - 1 : NONE;
        }

        /** The fault and its place, or null. */
        int[] fault() {
            for (int i = 0; i < lines.size(); i++) {
                for (int j = i + 1; j < lines.size(); j++) {
                    if (common(lines.get(i), lines.get(j)) >= 2) {
                        return new int[] {1, 100 * i + j};
                    }
                }
            }
            for (int i = 0; i < lines.size(); i++) {
                for (int x = 0; x < p; x++) {
                    if (!lines.get(i).contains(x)) {
                        int ways = 0;
                        for (int j : through(x)) {
                            ways += common(lines.get(i), lines.get(j)) > 0 ? 1 : 0;
                        }
                        if (ways != 1) {
                            return new int[] {ways == 0 ? 2 : 3, 100 * i + x};
                        }
                    }
                }
            }
            return null;
        }

        boolean regular(int x) {
            for (int y = 0; y < p; y++) {
                if (!near(x, y) && span(x, y).size() != t() + 1) {
                    return false;
                }
            }
            return true;
        }
    }

    private final W[] worlds = new W[6];
    private final int[][] rows = new int[4][];
    private final int[] times = new int[6];
    private int latestFinding;
    private int latestTries;
    private long latestAsked;
    private int[] latestSent = new int[0];

    // the search under way
    private W seen;
    private W other;
    private int left;
    private int made;
    private boolean spent;
    private long foundCount;
    private List<Integer> firstFound;
    private int[] images;

    private int find(int f) {
        latestFinding = f;
        times[f]++;
        return FINDING;
    }

    private static boolean wrong(int w) {
        return w < 0 || w > 5;
    }

    private boolean missing(int w) {
        return worlds[w] == null;
    }

    private static int common(TreeSet<Integer> a, TreeSet<Integer> b) {
        TreeSet<Integer> both = new TreeSet<>(a);
        both.retainAll(b);
        return both.size();
    }

    private static long bits(Iterable<Integer> set) {
        long all = 0;
        for (int x : set) {
            all |= 1L << x;
        }
        return all;
    }

    private static TreeSet<Integer> set(long bits) {
        TreeSet<Integer> all = new TreeSet<>();
        for (int x = 0; x < 64; x++) {
            if ((bits >> x & 1) == 1) {
                all.add(x);
            }
        }
        return all;
    }

    private int tell(java.util.Collection<Integer> set) {
        latestAsked = bits(set);
        return set.size();
    }

    private boolean beyond(int w, int... points) {
        for (int x : points) {
            if (x < 0 || x >= worlds[w].p) {
                return true;
            }
        }
        return false;
    }

    private boolean bitsBeyond(int w, long bits) {
        return !set(bits).isEmpty() && set(bits).last() >= worlds[w].p;
    }

    /** P of a WORLD, 0 where there is none: for choosing calls, no answer of the document. */
    int sizeOf(int w) {
        return missing(w) ? 0 : worlds[w].p;
    }

    int world(int w, int p) {
        if (wrong(w) || p < 2 || p > 45) {
            return BAD;
        }
        worlds[w] = new W(0, p);
        return p;
    }

    int line(int w, int row) {
        if (wrong(w) || row < 0 || row > 3) {
            return BAD;
        }
        if (!missing(w) && worlds[w].lines.size() == 45) {
            return FULL;
        }
        if (missing(w) || rows[row] == null) {
            return find(NOTHING);
        }
        if (worlds[w].kind != 0) {
            return find(UNLIKE);
        }
        if (beyond(w, rows[row])) {
            return find(BEYOND);
        }
        TreeSet<Integer> line = new TreeSet<>();
        for (int x : rows[row]) {
            line.add(x);
        }
        if (line.size() < 2) {
            return find(SIZE);
        }
        worlds[w].lines.add(line);
        return worlds[w].lines.size() - 1;
    }

    int grid(int w, int a, int b) {
        if (wrong(w) || a < 2 || b < 2 || a > 6 || b > 6) {
            return BAD;
        }
        W g = new W(1, a * b);
        g.mark = a;
        for (int i = 0; i < a; i++) {
            TreeSet<Integer> line = new TreeSet<>();
            for (int j = 0; j < b; j++) {
                line.add(b * i + j);
            }
            g.lines.add(line);
        }
        for (int j = 0; j < b; j++) {
            TreeSet<Integer> line = new TreeSet<>();
            for (int i = 0; i < a; i++) {
                line.add(b * i + j);
            }
            g.lines.add(line);
        }
        worlds[w] = g;
        return g.p;
    }

    int form(int w, int q) {
        if (wrong(w) || q != 2 && q != 3) {
            return BAD;
        }
        List<int[]> points = new ArrayList<>();
        for (int x = 0; x < q; x++) {
            for (int y = 0; y < q; y++) {
                for (int z = 0; z < q; z++) {
                    for (int v = 0; v < q; v++) {
                        int first = x != 0 ? x : y != 0 ? y : z != 0 ? z : v;
                        if (first == 1) {
                            points.add(new int[] {x, y, z, v});
                        }
                    }
                }
            }
        }
        W f = new W(2, points.size());
        f.mark = q;
        addCliques(f, points, q, new ArrayList<>());
        worlds[w] = f;
        return f.p;
    }

    private static void addCliques(W f, List<int[]> points, int q, List<Integer> begun) {
        if (begun.size() == q + 1) {
            f.lines.add(new TreeSet<>(begun));
            return;
        }
        for (int n = begun.isEmpty() ? 0 : begun.get(begun.size() - 1) + 1; n < points.size(); n++) {
            boolean fits = true;
            for (int m : begun) {
                int[] a = points.get(m);
                int[] b = points.get(n);
                fits &= Math.floorMod(a[0] * b[1] - a[1] * b[0] + a[2] * b[3] - a[3] * b[2], q) == 0;
            }
            if (fits) {
                List<Integer> more = new ArrayList<>(begun);
                more.add(n);
                addCliques(f, points, q, more);
            }
        }
    }

    int dual(int w, int to) {
        if (wrong(w) || wrong(to)) {
            return BAD;
        }
        if (missing(w)) {
            return find(NOTHING);
        }
        W from = worlds[w];
        for (int x = 0; x < from.p; x++) {
            if (from.through(x).size() < 2) {
                return STATE;
            }
        }
        W turned = new W(3, from.lines.size());
        for (int x = 0; x < from.p; x++) {
            turned.lines.add(new TreeSet<>(from.through(x)));
        }
        worlds[to] = turned;
        return turned.p;
    }

    int derive(int w, int x, int to) {
        if (wrong(w) || wrong(to)) {
            return BAD;
        }
        if (missing(w)) {
            return find(NOTHING);
        }
        if (beyond(w, x)) {
            return find(BEYOND);
        }
        W from = worlds[w];
        if (from.fault() != null || from.s() != from.t() || from.s() < 2 || !from.regular(x)) {
            return STATE;
        }
        List<Integer> kept = new ArrayList<>();
        for (int y = 0; y < from.p; y++) {
            if (!from.near(x, y)) {
                kept.add(y);
            }
        }
        List<TreeSet<Integer>> lines = new ArrayList<>();
        for (TreeSet<Integer> line : from.lines) {
            if (!line.contains(x)) {
                lines.add(renumbered(line, kept));
            }
        }
        List<TreeSet<Integer>> spans = new ArrayList<>();
        for (int y : kept) {
            TreeSet<Integer> span = renumbered(from.span(x, y), kept);
            if (!spans.contains(span)) {
                spans.add(span);
            }
        }
        spans.sort((a, b) -> a.first() - b.first());
        lines.addAll(spans);
        if (lines.size() > 45) {
            return FULL;
        }
        worlds[to] = new W(3, kept.size());
        worlds[to].lines = lines;
        return kept.size();
    }

    private static TreeSet<Integer> renumbered(TreeSet<Integer> set, List<Integer> kept) {
        TreeSet<Integer> all = new TreeSet<>();
        for (int x : set) {
            if (kept.contains(x)) {
                all.add(kept.indexOf(x));
            }
        }
        return all;
    }

    int part(int w, long points, int to) {
        if (wrong(w) || wrong(to)) {
            return BAD;
        }
        if (missing(w)) {
            return find(NOTHING);
        }
        if (bitsBeyond(w, points)) {
            return BAD;
        }
        List<Integer> kept = new ArrayList<>(set(points));
        W made = new W(3, kept.size());
        for (TreeSet<Integer> line : worlds[w].lines) {
            TreeSet<Integer> rest = renumbered(line, kept);
            if (rest.size() >= 2) {
                made.lines.add(rest);
            }
        }
        if (made.lines.isEmpty()) {
            return STATE;
        }
        worlds[to] = made;
        return made.p;
    }

    int drop(int w) {
        if (wrong(w)) {
            return BAD;
        }
        if (missing(w)) {
            return find(NOTHING);
        }
        worlds[w] = null;
        return 1;
    }

    int told(int w, int what) {
        if (wrong(w) || what < 0 || what > 4) {
            return BAD;
        }
        if (missing(w)) {
            return find(NOTHING);
        }
        W x = worlds[w];
        return what == 0 ? x.kind : what == 1 ? x.p : what == 2 ? x.lines.size() : what == 3 ? x.s() : x.t();
    }

    int mark(int w, int kind) {
        if (wrong(w) || kind < 1 || kind > 3) {
            return BAD;
        }
        if (missing(w)) {
            return find(NOTHING);
        }
        if (worlds[w].kind != kind) {
            return find(UNLIKE);
        }
        return kind == 3 ? worlds[w].through(0).size() : worlds[w].mark;
    }

    int points(int w, int line) {
        if (wrong(w)) {
            return BAD;
        }
        if (missing(w)) {
            return find(NOTHING);
        }
        if (line < 0 || line >= worlds[w].lines.size()) {
            return find(BEYOND);
        }
        return tell(worlds[w].lines.get(line));
    }

    int lines(int w, int point) {
        if (wrong(w)) {
            return BAD;
        }
        if (missing(w)) {
            return find(NOTHING);
        }
        if (beyond(w, point)) {
            return find(BEYOND);
        }
        return tell(worlds[w].through(point));
    }

    int fault(int w) {
        if (wrong(w)) {
            return BAD;
        }
        if (missing(w)) {
            return find(NOTHING);
        }
        int[] fault = worlds[w].fault();
        if (fault == null) {
            return 0;
        }
        latestAsked = fault[1];
        return fault[0];
    }

    int mean(int w) {
        if (wrong(w)) {
            return BAD;
        }
        if (missing(w)) {
            return find(NOTHING);
        }
        if (worlds[w].lines.isEmpty()) {
            return find(NOUGHT);
        }
        int sum = 0;
        for (TreeSet<Integer> line : worlds[w].lines) {
            sum += line.size();
        }
        return sum / worlds[w].lines.size();
    }

    int perp(int w, long set) {
        if (wrong(w)) {
            return BAD;
        }
        if (missing(w)) {
            return find(NOTHING);
        }
        if (bitsBeyond(w, set)) {
            return BAD;
        }
        return tell(worlds[w].perp(set(set)));
    }

    int span(int w, int x, int y) {
        if (wrong(w)) {
            return BAD;
        }
        if (missing(w)) {
            return find(NOTHING);
        }
        if (beyond(w, x, y)) {
            return find(BEYOND);
        }
        return worlds[w].near(x, y) ? STATE : tell(worlds[w].span(x, y));
    }

    int regular(int w, int x) {
        if (wrong(w)) {
            return BAD;
        }
        if (missing(w)) {
            return find(NOTHING);
        }
        if (beyond(w, x)) {
            return find(BEYOND);
        }
        if (worlds[w].t() == NONE) {
            return STATE;
        }
        return worlds[w].regular(x) ? 1 : 0;
    }

    int centres(int w, int x, int y, int z) {
        if (wrong(w)) {
            return BAD;
        }
        if (missing(w)) {
            return find(NOTHING);
        }
        return beyond(w, x, y, z) ? find(BEYOND) : worlds[w].perp(List.of(x, y, z)).size();
    }

    /** Sorts of search: 0 the first OVOID, 1 the first SPREAD, 2 all OVOIDS. */
    private int search(int w, int n, int sort) {
        if (wrong(w) || n < 1 || n > 100000) {
            return BAD;
        }
        if (missing(w)) {
            return find(NOTHING);
        }
        seen = worlds[w];
        left = n;
        made = 0;
        spent = false;
        foundCount = 0;
        firstFound = null;
        if (sort == 1) {
            seekSpread(new ArrayList<>());
        } else {
            seekOvoid(new ArrayList<>(), sort == 2);
        }
        latestTries = made;
        if (spent) {
            return SPENT;
        }
        if (sort == 2) {
            latestAsked = foundCount;
            return 1;
        }
        return firstFound == null ? NONE : tell(firstFound);
    }

    private boolean mayTry() {
        if (left == 0) {
            spent = true;
            return false;
        }
        left--;
        made++;
        return true;
    }

    /** True: the search is at its end. */
    private boolean seekOvoid(List<Integer> taken, boolean all) {
        int least = -1;
        for (int i = seen.lines.size() - 1; i >= 0; i--) {
            if (Collections.disjoint(seen.lines.get(i), taken)) {
                least = i;
            }
        }
        if (least < 0) {
            foundCount++;
            if (firstFound == null) {
                firstFound = new ArrayList<>(taken);
            }
            return !all;
        }
        for (int x : seen.lines.get(least)) {
            boolean fits = true;
            for (int y : taken) {
                fits &= !seen.near(x, y);
            }
            if (fits) {
                if (!mayTry()) {
                    return true;
                }
                taken.add(x);
                if (seekOvoid(taken, all)) {
                    return true;
                }
                taken.remove(taken.size() - 1);
            }
        }
        return false;
    }

    private boolean seekSpread(List<Integer> taken) {
        int least = -1;
        for (int x = seen.p - 1; x >= 0; x--) {
            if (Collections.disjoint(seen.through(x), taken)) {
                least = x;
            }
        }
        if (least < 0) {
            firstFound = new ArrayList<>(taken);
            return true;
        }
        for (int i : seen.through(least)) {
            boolean fits = true;
            for (int j : taken) {
                fits &= Collections.disjoint(seen.lines.get(i), seen.lines.get(j));
            }
            if (fits) {
                if (!mayTry()) {
                    return true;
                }
                taken.add(i);
                if (seekSpread(taken)) {
                    return true;
                }
                taken.remove(taken.size() - 1);
            }
        }
        return false;
    }

    int ovoid(int w, int n) {
        return search(w, n, 0);
    }

    int spread(int w, int n) {
        return search(w, n, 1);
    }

    int ovoids(int w, int n) {
        return search(w, n, 2);
    }

    int tries() {
        return latestTries;
    }

    int meets(int w, long set, boolean most) {
        if (wrong(w)) {
            return BAD;
        }
        if (missing(w)) {
            return find(NOTHING);
        }
        if (bitsBeyond(w, set)) {
            return BAD;
        }
        List<Integer> all = new ArrayList<>();
        for (TreeSet<Integer> line : worlds[w].lines) {
            all.add(common(line, set(set)));
        }
        return all.isEmpty() ? find(NOUGHT) : most ? Collections.max(all) : Collections.min(all);
    }

    int rank(int w, int r) {
        if (wrong(w) || r != 2 && r != 3 && r != 5) {
            return BAD;
        }
        if (missing(w)) {
            return find(NOTHING);
        }
        // Each row is freed of the lead places of those kept ahead of it; what has one left is kept itself.
        List<int[]> kept = new ArrayList<>();
        List<Integer> leads = new ArrayList<>();
        for (TreeSet<Integer> line : worlds[w].lines) {
            int[] row = new int[worlds[w].p];
            for (int x : line) {
                row[x] = 1;
            }
            for (int k = 0; k < kept.size(); k++) {
                while (row[leads.get(k)] != 0) {
                    for (int x = 0; x < row.length; x++) {
                        row[x] = (row[x] + kept.get(k)[x]) % r;
                    }
                }
            }
            for (int x = 0; x < row.length; x++) {
                if (row[x] != 0) {
                    kept.add(row);
                    leads.add(x);
                    break;
                }
            }
        }
        return kept.size();
    }

    int alike(int w, int v, int n) {
        if (wrong(w) || wrong(v) || n < 1 || n > 100000) {
            return BAD;
        }
        if (missing(w) || missing(v)) {
            return find(NOTHING);
        }
        seen = worlds[w];
        other = worlds[v];
        left = n;
        made = 0;
        spent = false;
        boolean is = false;
        if (seen.p == other.p && seen.lines.size() == other.lines.size()) {
            images = new int[seen.p];
            is = send(0);
        }
        latestTries = made;
        if (spent) {
            return SPENT;
        }
        if (is) {
            latestSent = images;
        }
        return is ? 1 : 0;
    }

    private boolean send(int x) {
        if (x == seen.p) {
            List<String> here = new ArrayList<>();
            List<String> there = new ArrayList<>();
            for (TreeSet<Integer> line : seen.lines) {
                TreeSet<Integer> image = new TreeSet<>();
                for (int y : line) {
                    image.add(images[y]);
                }
                here.add(image.toString());
            }
            for (TreeSet<Integer> line : other.lines) {
                there.add(line.toString());
            }
            Collections.sort(here);
            Collections.sort(there);
            return here.equals(there);
        }
        for (int y = 0; y < other.p; y++) {
            boolean fits = seen.through(x).size() == other.through(y).size();
            for (int a = 0; a < x && fits; a++) {
                fits = images[a] != y && seen.near(x, a) == other.near(y, images[a]);
            }
            if (fits) {
                if (!mayTry()) {
                    return false;
                }
                images[x] = y;
                if (send(x + 1)) {
                    return true;
                }
                if (spent) {
                    return false;
                }
            }
        }
        return false;
    }

    int sent(int p) {
        return p < 0 || p >= latestSent.length ? NONE : latestSent[p];
    }

    int far(int w, int x, int y) {
        if (wrong(w)) {
            return BAD;
        }
        if (missing(w)) {
            return find(NOTHING);
        }
        if (beyond(w, x, y)) {
            return find(BEYOND);
        }
        int[] steps = new int[worlds[w].p];
        Arrays.fill(steps, 1000);
        steps[x] = 0;
        for (int round = 0; round < worlds[w].p; round++) {
            for (int a = 0; a < worlds[w].p; a++) {
                for (int b = 0; b < worlds[w].p; b++) {
                    if (steps[a] + 1 < steps[b] && worlds[w].near(a, b)) {
                        steps[b] = steps[a] + 1;
                    }
                }
            }
        }
        return steps[y] == 1000 ? NONE : steps[y];
    }

    int row(int r, int n) {
        if (r < 0 || r > 3 || n > 12) {
            return BAD;
        }
        if (n < 0) {
            return find(SIZE);
        }
        rows[r] = new int[n];
        return n;
    }

    int lay(int r, int i, int v) {
        if (r < 0 || r > 3) {
            return BAD;
        }
        if (rows[r] == null) {
            return find(NOTHING);
        }
        if (i < 0 || i >= rows[r].length) {
            return find(BEYOND);
        }
        int was = rows[r][i];
        rows[r][i] = v;
        return was + 1000;
    }

    int tear(int r) {
        if (r < 0 || r > 3) {
            return BAD;
        }
        if (rows[r] == null) {
            return find(NOTHING);
        }
        rows[r] = null;
        return 1;
    }

    int copy(int r, int i, int to, int j, int n) {
        if (r < 0 || r > 3 || to < 0 || to > 3) {
            return BAD;
        }
        if (n < 0) {
            return find(SIZE);
        }
        if (rows[r] == null || rows[to] == null) {
            return find(NOTHING);
        }
        if (i < 0 || j < 0 || (long) i + n > rows[r].length || (long) j + n > rows[to].length) {
            return find(BEYOND);
        }
        int[] taken = rows[r].clone();
        for (int k = 0; k < n; k++) {
            rows[to][j + k] = taken[i + k];
        }
        return 1;
    }

    long asked() {
        return latestAsked;
    }

    int count(int what) {
        if (what < 0 || what > 3) {
            return BAD;
        }
        int[] sums = new int[4];
        for (W w : worlds) {
            if (w != null) {
                sums[0]++;
                sums[1] += w.p;
                sums[2] += w.lines.size();
            }
        }
        for (int[] row : rows) {
            sums[3] += row == null ? 0 : 1;
        }
        return sums[what];
    }

    int finding() {
        return latestFinding;
    }

    int findings(int f) {
        return f < 1 || f > 5 ? BAD : times[f];
    }

    long digest() {
        List<Long> all = new ArrayList<>();
        for (W w : worlds) {
            all.add(w == null ? -1L : w.p);
            if (w != null) {
                all.add((long) w.lines.size());
                all.add((long) w.kind);
                for (TreeSet<Integer> line : w.lines) {
                    all.add(bits(line));
                }
            }
        }
        for (int[] row : rows) {
            all.add(row == null ? -1L : row.length);
            if (row != null) {
                for (int v : row) {
                    all.add((long) v);
                }
            }
        }
        long h = 17;
        for (long v : all) {
            h = 31 * h + v;
        }
        return h;
    }
}
