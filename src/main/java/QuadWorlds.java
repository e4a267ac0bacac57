/** Points and lines without threes: small worlds of points and lines, and what can be asked of them. */
public final class QuadWorlds {
    public static final int BAD = -1, FULL = -2, FINDING = -3, STATE = -4, SPENT = -6, NONE = -9;

    private static final int WORLDS = 6, ROWS = 4, PLACES = 12, MOST = 45, MOST_TRIES = 100000;
    private static final int TOLD_KIND = 0, GRID_KIND = 1, FORM_KIND = 2, MADE_KIND = 3;
    private static final int NOTHING = 1, BEYOND = 2, UNLIKE = 3, NOUGHT = 4, SIZE = 5, LAST_FINDING = 5;

    private final World[] worlds = new World[WORLDS];
    private final int[][] rowPlaces = new int[ROWS][PLACES];
    private final int[] rowSizes = new int[ROWS];
    private final int[] findingTimes = new int[LAST_FINDING + 1];
    private final int[] sentTo = new int[MOST];
    private final int[] rankCells = new int[MOST * MOST];
    private final Seeker seeker = new Seeker();
    private final Matcher matcher = new Matcher();
    private World spare;
    private int sentSize;
    private int latestFinding;
    private int latestTries;
    private long latestAsked;

    public QuadWorlds() {
        for (int w = 0; w < WORLDS; w++) {
            worlds[w] = new World();
        }
        for (int r = 0; r < ROWS; r++) {
            rowSizes[r] = -1;
        }
        spare = new World();
    }

    // ---- 1 worlds

    public int world(int w, int p) {
        if (!isWorldNumber(w) || p < 2 || p > MOST) {
            return BAD;
        }
        worlds[w].begin(TOLD_KIND, p, 0);
        return p;
    }

    public int line(int w, int row) {
        if (!isWorldNumber(w) || !isRowNumber(row)) {
            return BAD;
        }
        World world = worlds[w];
        if (world.there && world.lineCount >= MOST) {
            return FULL;
        }
        if (!world.there || rowSizes[row] < 0) {
            return refused(NOTHING);
        }
        if (world.kind != TOLD_KIND) {
            return refused(UNLIKE);
        }
        if (!rowHasPointsOf(row, world)) {
            return refused(BEYOND);
        }
        long set = setOfRow(row);
        if (Long.bitCount(set) < 2) {
            return refused(SIZE);
        }
        world.add(set);
        return world.lineCount - 1;
    }

    public int grid(int w, int a, int b) {
        if (!isWorldNumber(w) || a < 2 || a > 6 || b < 2 || b > 6) {
            return BAD;
        }
        Maker.makeGrid(worlds[w], a, b);
        return worlds[w].size;
    }

    public int form(int w, int q) {
        if (!isWorldNumber(w) || q < 2 || q > 3) {
            return BAD;
        }
        Maker.makeForm(worlds[w], q);
        return worlds[w].size;
    }

    public int dual(int w, int to) {
        if (!isWorldNumber(w) || !isWorldNumber(to)) {
            return BAD;
        }
        World world = worlds[w];
        if (!world.there) {
            return refused(NOTHING);
        }
        if (world.leastThrough() < 2) {
            return STATE;
        }
        Maker.makeTurned(world, spare);
        return putSpare(to);
    }

    public int derive(int w, int x, int to) {
        if (!isWorldNumber(w) || !isWorldNumber(to)) {
            return BAD;
        }
        World world = worlds[w];
        if (!world.there) {
            return refused(NOTHING);
        }
        if (!world.hasPoint(x)) {
            return refused(BEYOND);
        }
        int s = world.orderOfLines();
        if (s < 2 || s != world.orderOfPoints() || Faults.firstOf(world) != 0 || !world.isRegular(x)) {
            return STATE;
        }
        if (!Maker.makeAbout(world, x, spare)) {
            return FULL;
        }
        return putSpare(to);
    }

    public int part(int w, long points, int to) {
        if (!isWorldNumber(w) || !isWorldNumber(to)) {
            return BAD;
        }
        World world = worlds[w];
        if (!world.there) {
            return refused(NOTHING);
        }
        if (!world.hasAll(points)) {
            return BAD;
        }
        if (world.mostOnLine(points) < 2) {
            return STATE;
        }
        Maker.makePart(world, points, spare);
        return putSpare(to);
    }

    public int drop(int w) {
        if (!isWorldNumber(w)) {
            return BAD;
        }
        if (!worlds[w].there) {
            return refused(NOTHING);
        }
        worlds[w].there = false;
        return 1;
    }

    public int told(int w, int what) {
        if (!isWorldNumber(w) || what < 0 || what > 4) {
            return BAD;
        }
        World world = worlds[w];
        if (!world.there) {
            return refused(NOTHING);
        }
        switch (what) {
            case 0:
                return world.kind;
            case 1:
                return world.size;
            case 2:
                return world.lineCount;
            case 3:
                return world.orderOfLines();
            default:
                return world.orderOfPoints();
        }
    }

    public int mark(int w, int kind) {
        if (!isWorldNumber(w) || kind < GRID_KIND || kind > MADE_KIND) {
            return BAD;
        }
        World world = worlds[w];
        if (!world.there) {
            return refused(NOTHING);
        }
        if (world.kind != kind) {
            return refused(UNLIKE);
        }
        return kind == MADE_KIND ? Long.bitCount(world.through[0]) : world.tag;
    }

    public int points(int w, int line) {
        if (!isWorldNumber(w)) {
            return BAD;
        }
        World world = worlds[w];
        if (!world.there) {
            return refused(NOTHING);
        }
        if (line < 0 || line >= world.lineCount) {
            return refused(BEYOND);
        }
        return askedSet(world.sets[line]);
    }

    public int lines(int w, int point) {
        if (!isWorldNumber(w)) {
            return BAD;
        }
        World world = worlds[w];
        if (!world.there) {
            return refused(NOTHING);
        }
        if (!world.hasPoint(point)) {
            return refused(BEYOND);
        }
        return askedSet(world.through[point]);
    }

    public int fault(int w) {
        if (!isWorldNumber(w)) {
            return BAD;
        }
        if (!worlds[w].there) {
            return refused(NOTHING);
        }
        int code = Faults.firstOf(worlds[w]);
        if (code == 0) {
            return 0;
        }
        latestAsked = Faults.placeIn(code);
        return Faults.sortOf(code);
    }

    public int mean(int w) {
        if (!isWorldNumber(w)) {
            return BAD;
        }
        World world = worlds[w];
        if (!world.there) {
            return refused(NOTHING);
        }
        if (world.lineCount == 0) {
            return refused(NOUGHT);
        }
        int sum = 0;
        for (int i = 0; i < world.lineCount; i++) {
            sum += Long.bitCount(world.sets[i]);
        }
        return sum / world.lineCount;
    }

    // ---- 2 sets

    public int perp(int w, long set) {
        if (!isWorldNumber(w)) {
            return BAD;
        }
        World world = worlds[w];
        if (!world.there) {
            return refused(NOTHING);
        }
        if (!world.hasAll(set)) {
            return BAD;
        }
        return askedSet(world.nearToAll(set));
    }

    public int span(int w, int x, int y) {
        if (!isWorldNumber(w)) {
            return BAD;
        }
        World world = worlds[w];
        if (!world.there) {
            return refused(NOTHING);
        }
        if (!world.hasPoint(x) || !world.hasPoint(y)) {
            return refused(BEYOND);
        }
        if (world.areNear(x, y)) {
            return STATE;
        }
        return askedSet(world.spanSet(x, y));
    }

    public int regular(int w, int x) {
        if (!isWorldNumber(w)) {
            return BAD;
        }
        World world = worlds[w];
        if (!world.there) {
            return refused(NOTHING);
        }
        if (!world.hasPoint(x)) {
            return refused(BEYOND);
        }
        if (world.orderOfPoints() == NONE) {
            return STATE;
        }
        return world.isRegular(x) ? 1 : 0;
    }

    public int centres(int w, int x, int y, int z) {
        if (!isWorldNumber(w)) {
            return BAD;
        }
        World world = worlds[w];
        if (!world.there) {
            return refused(NOTHING);
        }
        if (!world.hasPoint(x) || !world.hasPoint(y) || !world.hasPoint(z)) {
            return refused(BEYOND);
        }
        return Long.bitCount(world.near[x] & world.near[y] & world.near[z]);
    }

    public int ovoid(int w, int n) {
        if (!isWorldNumber(w) || !isNumberOfTries(n)) {
            return BAD;
        }
        World world = worlds[w];
        if (!world.there) {
            return refused(NOTHING);
        }
        seeker.seek(world.lineCount, world.sets, world.through, n, false);
        return firstFound();
    }

    public int spread(int w, int n) {
        if (!isWorldNumber(w) || !isNumberOfTries(n)) {
            return BAD;
        }
        World world = worlds[w];
        if (!world.there) {
            return refused(NOTHING);
        }
        seeker.seek(world.size, world.through, world.sets, n, false);
        return firstFound();
    }

    public int ovoids(int w, int n) {
        if (!isWorldNumber(w) || !isNumberOfTries(n)) {
            return BAD;
        }
        World world = worlds[w];
        if (!world.there) {
            return refused(NOTHING);
        }
        seeker.seek(world.lineCount, world.sets, world.through, n, true);
        latestTries = seeker.tryCount;
        if (seeker.isSpent) {
            return SPENT;
        }
        latestAsked = seeker.foundCount;
        return 1;
    }

    public int tries() {
        return latestTries;
    }

    public int meets(int w, long set, boolean most) {
        if (!isWorldNumber(w)) {
            return BAD;
        }
        World world = worlds[w];
        if (!world.there) {
            return refused(NOTHING);
        }
        if (!world.hasAll(set)) {
            return BAD;
        }
        if (world.lineCount == 0) {
            return refused(NOUGHT);
        }
        return most ? world.mostOnLine(set) : world.leastOnLine(set);
    }

    public int rank(int w, int r) {
        if (!isWorldNumber(w) || r != 2 && r != 3 && r != 5) {
            return BAD;
        }
        if (!worlds[w].there) {
            return refused(NOTHING);
        }
        return Ranks.rankOf(worlds[w], r, rankCells);
    }

    public int alike(int w, int v, int n) {
        if (!isWorldNumber(w) || !isWorldNumber(v) || !isNumberOfTries(n)) {
            return BAD;
        }
        if (!worlds[w].there || !worlds[v].there) {
            return refused(NOTHING);
        }
        matcher.match(worlds[w], worlds[v], n);
        latestTries = matcher.tryCount;
        if (matcher.isSpent) {
            return SPENT;
        }
        if (!matcher.isFound) {
            return 0;
        }
        sentSize = worlds[w].size;
        System.arraycopy(matcher.images, 0, sentTo, 0, sentSize);
        return 1;
    }

    public int sent(int p) {
        return p < 0 || p >= sentSize ? NONE : sentTo[p];
    }

    public int far(int w, int x, int y) {
        if (!isWorldNumber(w)) {
            return BAD;
        }
        World world = worlds[w];
        if (!world.there) {
            return refused(NOTHING);
        }
        if (!world.hasPoint(x) || !world.hasPoint(y)) {
            return refused(BEYOND);
        }
        return world.stepsBetween(x, y);
    }

    // ---- 3 rows, what is told

    public int row(int r, int n) {
        if (!isRowNumber(r) || n > PLACES) {
            return BAD;
        }
        if (n < 0) {
            return refused(SIZE);
        }
        for (int i = 0; i < n; i++) {
            rowPlaces[r][i] = 0;
        }
        rowSizes[r] = n;
        return n;
    }

    public int lay(int r, int i, int v) {
        if (!isRowNumber(r)) {
            return BAD;
        }
        if (rowSizes[r] < 0) {
            return refused(NOTHING);
        }
        if (i < 0 || i >= rowSizes[r]) {
            return refused(BEYOND);
        }
        int was = rowPlaces[r][i];
        rowPlaces[r][i] = v;
        return was + 1000;
    }

    public int tear(int r) {
        if (!isRowNumber(r)) {
            return BAD;
        }
        if (rowSizes[r] < 0) {
            return refused(NOTHING);
        }
        rowSizes[r] = -1;
        return 1;
    }

    public int copy(int r, int i, int to, int j, int n) {
        if (!isRowNumber(r) || !isRowNumber(to)) {
            return BAD;
        }
        if (n < 0) {
            return refused(SIZE);
        }
        if (rowSizes[r] < 0 || rowSizes[to] < 0) {
            return refused(NOTHING);
        }
        if (!rowHasPlaces(r, i, n) || !rowHasPlaces(to, j, n)) {
            return refused(BEYOND);
        }
        System.arraycopy(rowPlaces[r], i, rowPlaces[to], j, n);
        return 1;
    }

    public long asked() {
        return latestAsked;
    }

    public int count(int what) {
        if (what < 0 || what > 3) {
            return BAD;
        }
        int sum = 0;
        if (what == 3) {
            for (int r = 0; r < ROWS; r++) {
                sum += rowSizes[r] < 0 ? 0 : 1;
            }
            return sum;
        }
        for (int w = 0; w < WORLDS; w++) {
            if (worlds[w].there) {
                sum += what == 0 ? 1 : what == 1 ? worlds[w].size : worlds[w].lineCount;
            }
        }
        return sum;
    }

    public int finding() {
        return latestFinding;
    }

    public int findings(int f) {
        if (f < 1 || f > LAST_FINDING) {
            return BAD;
        }
        return findingTimes[f];
    }

    public long digest() {
        long h = 17;
        for (int w = 0; w < WORLDS; w++) {
            h = worlds[w].digestOn(h);
        }
        for (int r = 0; r < ROWS; r++) {
            h = 31 * h + rowSizes[r];
            for (int i = 0; i < rowSizes[r]; i++) {
                h = 31 * h + rowPlaces[r][i];
            }
        }
        return h;
    }

    // ---- what the calls share

    private static boolean isWorldNumber(int w) {
        return w >= 0 && w < WORLDS;
    }

    private static boolean isRowNumber(int r) {
        return r >= 0 && r < ROWS;
    }

    private static boolean isNumberOfTries(int n) {
        return n >= 1 && n <= MOST_TRIES;
    }

    private int refused(int f) {
        latestFinding = f;
        findingTimes[f]++;
        return FINDING;
    }

    private int askedSet(long set) {
        latestAsked = set;
        return Long.bitCount(set);
    }

    private int firstFound() {
        latestTries = seeker.tryCount;
        if (seeker.isSpent) {
            return SPENT;
        }
        return seeker.foundCount == 0 ? NONE : askedSet(seeker.foundSet);
    }

    /** The spare one takes the place, and the one that stood there is the spare one. */
    private int putSpare(int to) {
        World made = spare;
        spare = worlds[to];
        worlds[to] = made;
        return made.size;
    }

    private boolean rowHasPlaces(int r, int i, int n) {
        // Taken from the size, so that i + n cannot wrap.
        return i >= 0 && i <= rowSizes[r] && n <= rowSizes[r] - i;
    }

    private boolean rowHasPointsOf(int r, World world) {
        for (int i = 0; i < rowSizes[r]; i++) {
            if (!world.hasPoint(rowPlaces[r][i])) {
                return false;
            }
        }
        return true;
    }

    private long setOfRow(int r) {
        long set = 0;
        for (int i = 0; i < rowSizes[r]; i++) {
            set |= 1L << rowPlaces[r][i];
        }
        return set;
    }

    private static boolean has(long set, int i) {
        return (set >>> i & 1L) != 0;
    }

    /** The least of a set that is not empty. */
    private static int leastOf(long set) {
        return Long.bitCount((set & -set) - 1);
    }

    /** The set of all below i (i is 63 at most). */
    private static long below(int i) {
        return (1L << i) - 1;
    }

    /** POINTS and LINES; which LINES go through a POINT and which POINTS are NEAR it is kept with each LINE added. */
    private static final class World {
        private final long[] sets = new long[MOST];
        private final long[] through = new long[MOST];
        private final long[] near = new long[MOST];
        private boolean there;
        private int kind;
        private int tag;
        private int size;
        private int lineCount;

        void begin(int newKind, int newSize, int newTag) {
            there = true;
            kind = newKind;
            size = newSize;
            tag = newTag;
            lineCount = 0;
            for (int p = 0; p < MOST; p++) {
                through[p] = 0;
                near[p] = 1L << p;
            }
        }

        /** False, if there is no place for the LINE. */
        boolean add(long set) {
            if (lineCount >= MOST) {
                return false;
            }
            sets[lineCount] = set;
            for (int p = 0; p < size; p++) {
                if (has(set, p)) {
                    through[p] |= 1L << lineCount;
                    near[p] |= set;
                }
            }
            lineCount++;
            return true;
        }

        boolean hasPoint(int p) {
            return p >= 0 && p < size;
        }

        boolean hasAll(long set) {
            return (set & ~below(size)) == 0;
        }

        boolean areNear(int x, int y) {
            return has(near[x], y);
        }

        long nearToAll(long set) {
            long all = below(size);
            for (int p = 0; p < size; p++) {
                if (has(set, p)) {
                    all &= near[p];
                }
            }
            return all;
        }

        long spanSet(int x, int y) {
            return nearToAll(near[x] & near[y]);
        }

        boolean isRegular(int x) {
            int due = orderOfPoints() + 1;
            for (int y = 0; y < size; y++) {
                if (!areNear(x, y) && Long.bitCount(spanSet(x, y)) != due) {
                    return false;
                }
            }
            return true;
        }

        int orderOfLines() {
            if (lineCount == 0) {
                return NONE;
            }
            int points = Long.bitCount(sets[0]);
            for (int i = 1; i < lineCount; i++) {
                if (Long.bitCount(sets[i]) != points) {
                    return NONE;
                }
            }
            return points - 1;
        }

        int orderOfPoints() {
            if (lineCount == 0) {
                return NONE;
            }
            int lines = Long.bitCount(through[0]);
            for (int p = 1; p < size; p++) {
                if (Long.bitCount(through[p]) != lines) {
                    return NONE;
                }
            }
            return lines - 1;
        }

        int leastThrough() {
            int least = MOST;
            for (int p = 0; p < size; p++) {
                least = Math.min(least, Long.bitCount(through[p]));
            }
            return least;
        }

        int mostOnLine(long set) {
            int most = 0;
            for (int i = 0; i < lineCount; i++) {
                most = Math.max(most, Long.bitCount(sets[i] & set));
            }
            return most;
        }

        int leastOnLine(long set) {
            int least = MOST;
            for (int i = 0; i < lineCount; i++) {
                least = Math.min(least, Long.bitCount(sets[i] & set));
            }
            return least;
        }

        /** All LINES that have a POINT of the set. */
        long linesMeeting(long set) {
            long meeting = 0;
            for (int p = 0; p < size; p++) {
                if (has(set, p)) {
                    meeting |= through[p];
                }
            }
            return meeting;
        }

        int stepsBetween(int x, int y) {
            long reached = 1L << x;
            for (int steps = 0; steps < size; steps++) {
                if (has(reached, y)) {
                    return steps;
                }
                long next = reached;
                for (int p = 0; p < size; p++) {
                    if (has(reached, p)) {
                        next |= near[p];
                    }
                }
                reached = next;
            }
            return NONE;
        }

        long digestOn(long start) {
            if (!there) {
                return 31 * start - 1;
            }
            long h = 31 * start + size;
            h = 31 * h + lineCount;
            h = 31 * h + kind;
            for (int i = 0; i < lineCount; i++) {
                h = 31 * h + sets[i];
            }
            return h;
        }
    }

    /** What is wrong in a WORLD that is not RIGHT: a code of the fault's sort and its place. */
    private static final class Faults {
        private static final int TOGETHER = 1, NO_MEETING = 2, MANY_MEETINGS = 3, BY_SORT = 10000;

        /** 0, if the WORLD is RIGHT. */
        static int firstOf(World world) {
            int code = firstPair(world);
            return code != 0 ? code : firstMeeting(world);
        }

        static int sortOf(int code) {
            return code / BY_SORT;
        }

        static int placeIn(int code) {
            return code % BY_SORT;
        }

        private static int firstPair(World world) {
            for (int i = 0; i < world.lineCount; i++) {
                for (int j = i + 1; j < world.lineCount; j++) {
                    if (Long.bitCount(world.sets[i] & world.sets[j]) >= 2) {
                        return BY_SORT * TOGETHER + 100 * i + j;
                    }
                }
            }
            return 0;
        }

        private static int firstMeeting(World world) {
            for (int i = 0; i < world.lineCount; i++) {
                long meeting = world.linesMeeting(world.sets[i]);
                for (int p = 0; p < world.size; p++) {
                    int ways = Long.bitCount(world.through[p] & meeting);
                    if (!has(world.sets[i], p) && ways != 1) {
                        return BY_SORT * (ways == 0 ? NO_MEETING : MANY_MEETINGS) + 100 * i + p;
                    }
                }
            }
            return 0;
        }
    }

    /** Makes WORLDS out of numbers or out of another WORLD. */
    private static final class Maker {
        static void makeGrid(World to, int a, int b) {
            to.begin(GRID_KIND, a * b, a);
            for (int i = 0; i < a; i++) {
                to.add(below(b) << b * i);
            }
            for (int j = 0; j < b; j++) {
                long set = 0;
                for (int i = 0; i < a; i++) {
                    set |= 1L << b * i + j;
                }
                to.add(set);
            }
        }

        static void makeForm(World to, int q) {
            int rows = q * q * q * q;
            to.begin(FORM_KIND, (rows - 1) / (q - 1), q);
            int p = 0;
            for (int row = 1; row < rows && p < to.size; row++) {
                if (isFormPoint(row, q)) {
                    to.near[p] = nearByForm(row, q);
                    p++;
                }
            }
            for (int a = 0; a < to.size; a++) {
                for (int b = a + 1; b < to.size; b++) {
                    // The form has no three NEAR ones off one LINE: what is NEAR to both is their LINE.
                    long set = to.near[a] & to.near[b];
                    if (to.areNear(a, b) && (set & below(b)) == 1L << a) {
                        to.add(set);
                    }
                }
            }
        }

        /** All POINTS NEAR by the form of q to the one that the row tells. */
        private static long nearByForm(int row, int q) {
            int rows = q * q * q * q;
            long set = 0;
            int p = 0;
            for (int other = 1; other < rows; other++) {
                if (isFormPoint(other, q)) {
                    set |= isZeroForm(row, other, q) ? 1L << p : 0;
                    p++;
                }
            }
            return set;
        }

        /** Whether the first of the row's four numbers that is not 0 is 1; a row is read as one number by q. */
        private static boolean isFormPoint(int row, int q) {
            int rest = row;
            int first = 0;
            for (int place = 0; place < 4; place++) {
                first = rest % q != 0 ? rest % q : first;
                rest /= q;
            }
            return first == 1;
        }

        private static boolean isZeroForm(int one, int other, int q) {
            int x = one / (q * q * q), y = one / (q * q) % q, z = one / q % q, w = one % q;
            int ox = other / (q * q * q), oy = other / (q * q) % q, oz = other / q % q, ow = other % q;
            return (x * oy - y * ox + z * ow - w * oz) % q == 0;
        }

        static void makeTurned(World from, World to) {
            to.begin(MADE_KIND, from.lineCount, 0);
            for (int p = 0; p < from.size; p++) {
                to.add(from.through[p]);
            }
        }

        /** False, if there are more LINES than a WORLD can have. */
        static boolean makeAbout(World from, int x, World to) {
            long kept = below(from.size) & ~from.near[x];
            to.begin(MADE_KIND, Long.bitCount(kept), 0);
            for (int i = 0; i < from.lineCount; i++) {
                if (!has(from.sets[i], x) && !to.add(renumbered(from.sets[i], kept))) {
                    return false;
                }
            }
            for (int y = 0; y < from.size; y++) {
                if (has(kept, y)) {
                    long rest = from.spanSet(x, y) & ~(1L << x);
                    // SPANS of a REGULAR POINT have but it together: each comes once, with its least POINT.
                    if ((rest & below(y)) == 0 && !to.add(renumbered(rest, kept))) {
                        return false;
                    }
                }
            }
            return true;
        }

        static void makePart(World from, long kept, World to) {
            to.begin(MADE_KIND, Long.bitCount(kept), 0);
            for (int i = 0; i < from.lineCount; i++) {
                if (Long.bitCount(from.sets[i] & kept) >= 2) {
                    to.add(renumbered(from.sets[i], kept));
                }
            }
        }

        /** What of the set is kept, each POINT told by its number among the kept ones. */
        private static long renumbered(long set, long kept) {
            long answer = 0;
            int number = 0;
            for (int p = 0; p < MOST; p++) {
                if (has(kept, p)) {
                    if (has(set, p)) {
                        answer |= 1L << number;
                    }
                    number++;
                }
            }
            return answer;
        }
    }

    /** RANKS of the rows of LINES by a prime. */
    private static final class Ranks {
        static int rankOf(World world, int r, int[] cells) {
            for (int i = 0; i < world.lineCount; i++) {
                for (int p = 0; p < world.size; p++) {
                    cells[MOST * i + p] = has(world.sets[i], p) ? 1 : 0;
                }
            }
            int rank = 0;
            for (int p = 0; p < world.size && rank < world.lineCount; p++) {
                int i = firstWith(cells, p, rank, world.lineCount);
                if (i < world.lineCount) {
                    swapRows(cells, i, rank, world.size);
                    clearBelow(cells, p, rank, world, r);
                    rank++;
                }
            }
            return rank;
        }

        private static int firstWith(int[] cells, int p, int from, int end) {
            for (int i = from; i < end; i++) {
                if (cells[MOST * i + p] != 0) {
                    return i;
                }
            }
            return end;
        }

        private static void swapRows(int[] cells, int i, int j, int size) {
            for (int p = 0; p < size; p++) {
                int kept = cells[MOST * i + p];
                cells[MOST * i + p] = cells[MOST * j + p];
                cells[MOST * j + p] = kept;
            }
        }

        private static void clearBelow(int[] cells, int p, int lead, World world, int r) {
            int factor = inverseOf(cells[MOST * lead + p], r);
            for (int i = lead + 1; i < world.lineCount; i++) {
                int times = cells[MOST * i + p] * factor % r;
                for (int c = p; times != 0 && c < world.size; c++) {
                    int less = times * cells[MOST * lead + c];
                    cells[MOST * i + c] = Math.floorMod(cells[MOST * i + c] - less, r);
                }
            }
        }

        private static int inverseOf(int v, int r) {
            for (int i = 1; i < r; i++) {
                if (v * i % r == 1) {
                    return i;
                }
            }
            return 1;
        }
    }

    /**
     * SEEKING for OVOIDS and SPREADS alike: things are taken, so that each of the others is met just once.
     * That a POINT is NEAR to none taken is that no LINE through it is met.
     */
    private static final class Seeker {
        // Each step of a search takes one or goes back, so that twice the tries are enough.
        private static final int MOST_STEPS = 1000000;

        private final long[] met = new long[MOST + 1];
        private final long[] taken = new long[MOST + 1];
        private final long[] left = new long[MOST + 1];
        private long allMet;
        private int depth;
        private int tryCount;
        private boolean isSpent;
        private int foundCount;
        private long foundSet;

        /** choices: by what is to be met, what meets it; meetings: by what can be taken, what it meets. */
        void seek(int toMeet, long[] choices, long[] meetings, int most, boolean toTheEnd) {
            allMet = below(toMeet);
            tryCount = 0;
            isSpent = false;
            foundCount = 0;
            depth = 0;
            met[0] = 0;
            taken[0] = 0;
            open(choices, meetings);
            for (int step = 0; step < MOST_STEPS && depth >= 0; step++) {
                if (foundCount > 0 && !toTheEnd) {
                    return;
                }
                if (left[depth] == 0) {
                    depth--;
                } else if (tryCount == most) {
                    isSpent = true;
                    return;
                } else {
                    take(choices, meetings);
                }
            }
        }

        private void take(long[] choices, long[] meetings) {
            int c = leastOf(left[depth]);
            left[depth] &= ~(1L << c);
            tryCount++;
            if (c < MOST && depth < MOST) {
                met[depth + 1] = met[depth] | meetings[c];
                taken[depth + 1] = taken[depth] | 1L << c;
                depth++;
                open(choices, meetings);
            }
        }

        /** Begins the level that has just been come to: what can be taken there, or one more that is found. */
        private void open(long[] choices, long[] meetings) {
            left[depth] = 0;
            if (met[depth] == allMet) {
                foundCount++;
                foundSet = taken[depth];
                return;
            }
            int least = leastOf(~met[depth]);
            if (least >= MOST) {
                return;
            }
            for (int c = 0; c < MOST; c++) {
                if (has(choices[least], c) && (meetings[c] & met[depth]) == 0) {
                    left[depth] |= 1L << c;
                }
            }
        }
    }

    /** SEEKING for a way to send one WORLD to another. */
    private static final class Matcher {
        // Each step of a search takes one or goes back, so that twice the tries are enough.
        private static final int MOST_STEPS = 1000000;

        private final int[] images = new int[MOST];
        private final long[] used = new long[MOST + 1];
        private final long[] left = new long[MOST + 1];
        private int depth;
        private int tryCount;
        private boolean isSpent;
        private boolean isFound;

        void match(World from, World to, int most) {
            tryCount = 0;
            isSpent = false;
            isFound = false;
            if (from.size != to.size || from.lineCount != to.lineCount) {
                return;
            }
            depth = 0;
            used[0] = 0;
            open(from, to);
            for (int step = 0; step < MOST_STEPS && depth >= 0 && !isFound; step++) {
                if (left[depth] == 0) {
                    depth--;
                } else if (tryCount == most) {
                    isSpent = true;
                    return;
                } else {
                    take(from, to);
                }
            }
        }

        private void take(World from, World to) {
            int q = leastOf(left[depth]);
            left[depth] &= ~(1L << q);
            tryCount++;
            if (q < MOST && depth < from.size) {
                images[depth] = q;
                used[depth + 1] = used[depth] | 1L << q;
                depth++;
                open(from, to);
            }
        }

        /** Begins the level that has just been come to: where its POINT can be sent, or whether all fits. */
        private void open(World from, World to) {
            left[depth] = 0;
            if (depth == from.size) {
                isFound = linesFit(from, to);
                return;
            }
            long wanted = imageOf(from.near[depth] & below(depth), depth);
            int throughIt = Long.bitCount(from.through[depth]);
            for (int q = 0; q < to.size; q++) {
                if (!has(used[depth], q) && Long.bitCount(to.through[q]) == throughIt
                        && (to.near[q] & used[depth]) == wanted) {
                    left[depth] |= 1L << q;
                }
            }
        }

        private long imageOf(long set, int end) {
            long image = 0;
            for (int p = 0; p < end; p++) {
                if (has(set, p)) {
                    image |= 1L << images[p];
                }
            }
            return image;
        }

        /** Whether all LINES become LINES, each once: LINES that are alike are as many here as there. */
        private boolean linesFit(World from, World to) {
            long free = below(to.lineCount);
            for (int i = 0; i < from.lineCount; i++) {
                int j = lineWith(to, imageOf(from.sets[i], from.size), free);
                if (j == NONE) {
                    return false;
                }
                free &= ~(1L << j);
            }
            return true;
        }

        private static int lineWith(World world, long set, long free) {
            for (int j = 0; j < world.lineCount; j++) {
                if (has(free, j) && world.sets[j] == set) {
                    return j;
                }
            }
            return NONE;
        }
    }
}
