/** Each promise of the document by its number: ordinary calls, the edges that it names, and wrong ones. */
public final class PromiseTest {
    private static final int BAD = -1, FULL = -2, FINDING = -3, STATE = -4, SPENT = -6, NONE = -9;
    private static final int NOTHING = 1, BEYOND = 2, UNLIKE = 3, NOUGHT = 4, SIZE = 5;
    private static final int[] NO_WORLD = {-1, 6, 7, Integer.MIN_VALUE, Integer.MAX_VALUE};
    private static final int[] NO_ROW = {-1, 4, 5, Integer.MIN_VALUE, Integer.MAX_VALUE};

    private static QuadWorlds x;
    private static String at;

    public static void main(String[] args) {
        constants();
        newObject();
        world();
        line();
        lineOrder();
        grid();
        formOfTwo();
        formOfThree();
        dual();
        derive();
        deriveOfThree();
        deriveRefused();
        part();
        drop();
        told();
        mark();
        pointsAndLines();
        fault();
        mean();
        perp();
        span();
        regular();
        centres();
        ovoid();
        spread();
        ovoids();
        tries();
        meets();
        rank();
        alike();
        alikeLines();
        sent();
        far();
        row();
        lay();
        tear();
        copy();
        asked();
        count();
        findings();
        digest();
        refusedChangesNothing();
        Due.end("PromiseTest");
    }

    private static void begin(String promise) {
        at = promise + ": ";
        x = new QuadWorlds();
    }

    private static void is(String call, long want, long got) {
        Due.is(at + call, want, got);
    }

    /** The call was refused with this FINDING. */
    private static void finds(String call, int finding, long got) {
        is(call, FINDING, got);
        is(call + ", then finding()", finding, x.finding());
    }

    /** A ROW is laid whole. */
    private static void lay(int r, int... places) {
        x.row(r, places.length);
        for (int i = 0; i < places.length; i++) {
            x.lay(r, i, places[i]);
        }
    }

    /** A WORLD told by hand; each LINE is a list of its POINTS. */
    private static void tell(int w, int p, int[]... lines) {
        x.world(w, p);
        for (int[] line : lines) {
            lay(3, line);
            x.line(w, 3);
        }
        x.tear(3);
    }

    private static int[] of(int... points) {
        return points;
    }

    private static long bits(int... points) {
        long set = 0;
        for (int p : points) {
            set |= 1L << p;
        }
        return set;
    }

    private static void lineIs(int w, int line, int... points) {
        is("points(" + w + ", " + line + ")", points.length, x.points(w, line));
        is("asked() of line " + line, bits(points), x.asked());
    }

    private static void constants() {
        begin("the face");
        is("BAD", BAD, QuadWorlds.BAD);
        is("FULL", FULL, QuadWorlds.FULL);
        is("FINDING", FINDING, QuadWorlds.FINDING);
        is("STATE", STATE, QuadWorlds.STATE);
        is("SPENT", SPENT, QuadWorlds.SPENT);
        is("NONE", NONE, QuadWorlds.NONE);
    }

    private static void newObject() {
        begin("1 new");
        for (int what = 0; what < 4; what++) {
            is("count(" + what + ")", 0, x.count(what));
        }
        is("asked()", 0, x.asked());
        is("tries()", 0, x.tries());
        is("finding()", 0, x.finding());
        for (int f = 1; f <= 5; f++) {
            is("findings(" + f + ")", 0, x.findings(f));
        }
        is("sent(0)", NONE, x.sent(0));
        long h = 17;
        for (int i = 0; i < 10; i++) {
            h = 31 * h - 1;
        }
        is("digest()", h, x.digest());
        for (int w = 0; w < 6; w++) {
            finds("told(" + w + ", 0)", NOTHING, x.told(w, 0));
        }
        for (int r = 0; r < 4; r++) {
            finds("tear(" + r + ")", NOTHING, x.tear(r));
        }
        QuadWorlds other = new QuadWorlds();
        other.world(0, 3);
        finds("told(0, 0) while another object has one", NOTHING, x.told(0, 0));
    }

    private static void world() {
        begin("2 world");
        for (int w : NO_WORLD) {
            is("world(" + w + ", 4)", BAD, x.world(w, 4));
        }
        for (int p : of(1, 0, -1, 46, Integer.MIN_VALUE, Integer.MAX_VALUE)) {
            is("world(0, " + p + ")", BAD, x.world(0, p));
        }
        is("count(0)", 0, x.count(0));
        is("world(0, 2)", 2, x.world(0, 2));
        is("world(5, 45)", 45, x.world(5, 45));
        is("kind", 0, x.told(0, 0));
        is("P", 2, x.told(0, 1));
        is("L", 0, x.told(0, 2));
        x.grid(0, 2, 2);
        is("world(0, 7) over a grid", 7, x.world(0, 7));
        is("kind over a grid", 0, x.told(0, 0));
        is("L over a grid", 0, x.told(0, 2));
        is("lines(0, 0) over a grid", 0, x.lines(0, 0));
        is("perp(0, 1) over a grid", 1, x.perp(0, 1));
    }

    private static void line() {
        begin("3 line");
        x.world(0, 5);
        lay(0, 1, 3, 1, 3);
        is("line(0, 0)", 0, x.line(0, 0));
        lineIs(0, 0, 1, 3);
        is("line(0, 0) once more", 1, x.line(0, 0));
        lay(1, 0, 4);
        is("line(0, 1)", 2, x.line(0, 1));
        lineIs(0, 2, 0, 4);
        for (int w : NO_WORLD) {
            is("line(" + w + ", 0)", BAD, x.line(w, 0));
        }
        for (int r : NO_ROW) {
            is("line(0, " + r + ")", BAD, x.line(0, r));
        }
        finds("line(1, 0): no world", NOTHING, x.line(1, 0));
        finds("line(0, 2): no row", NOTHING, x.line(0, 2));
        lay(0, 1, 5);
        finds("line with point 5 of 5", BEYOND, x.line(0, 0));
        lay(0, -1, 2);
        finds("line with point -1", BEYOND, x.line(0, 0));
        lay(0, 64, 2);
        finds("line with point 64", BEYOND, x.line(0, 0));
        lay(0, 2, 2, 2);
        finds("line of one", SIZE, x.line(0, 0));
        lay(0);
        finds("line of none", SIZE, x.line(0, 0));
        lay(0, 5);
        finds("line of one that there is not", BEYOND, x.line(0, 0));
        is("L", 3, x.told(0, 2));
        lay(0, 0, 1, 2, 3, 4, 0, 1, 2, 3, 4, 0, 1);
        is("line of all", 3, x.line(0, 0));
        lineIs(0, 3, 0, 1, 2, 3, 4);
    }

    private static void lineOrder() {
        begin("3 line, the order");
        x.form(1, 2);
        lay(0, 0, 99);
        finds("a form, no row", NOTHING, x.line(1, 2));
        finds("a form, a point beyond", UNLIKE, x.line(1, 0));
        x.grid(1, 2, 2);
        finds("a grid", UNLIKE, x.line(1, 0));
        x.dual(1, 1);
        finds("a made one", UNLIKE, x.line(1, 0));
        x.world(0, 45);
        lay(1, 0, 44);
        for (int i = 0; i < 45; i++) {
            is("line " + i, i, x.line(0, 1));
        }
        is("line 45", FULL, x.line(0, 1));
        is("line 45, a point beyond", FULL, x.line(0, 0));
        is("line 45, no row", FULL, x.line(0, 3));
        is("line 45, a bad row", BAD, x.line(0, 4));
        x.form(2, 3);
        x.derive(2, 0, 2);
        is("L of the made one", 45, x.told(2, 2));
        is("a made one of 45 lines", FULL, x.line(2, 0));
        is("finding() behind FULL", UNLIKE, x.finding());
    }

    private static void grid() {
        begin("4 grid");
        for (int w : NO_WORLD) {
            is("grid(" + w + ", 2, 2)", BAD, x.grid(w, 2, 2));
        }
        for (int a : of(1, 7, 0, -2, Integer.MIN_VALUE, Integer.MAX_VALUE)) {
            is("grid(0, " + a + ", 2)", BAD, x.grid(0, a, 2));
            is("grid(0, 2, " + a + ")", BAD, x.grid(0, 2, a));
        }
        is("count(0)", 0, x.count(0));
        for (int a = 2; a <= 6; a++) {
            for (int b = 2; b <= 6; b++) {
                is("grid(0, " + a + ", " + b + ")", a * b, x.grid(0, a, b));
                is("kind", 1, x.told(0, 0));
                is("L", a + b, x.told(0, 2));
                is("fault(0)", 0, x.fault(0));
            }
        }
        x.grid(0, 2, 3);
        lineIs(0, 0, 0, 1, 2);
        lineIs(0, 1, 3, 4, 5);
        lineIs(0, 2, 0, 3);
        lineIs(0, 3, 1, 4);
        lineIs(0, 4, 2, 5);
        finds("points(0, 5)", BEYOND, x.points(0, 5));
    }

    private static void formOfTwo() {
        begin("5 form");
        for (int w : NO_WORLD) {
            is("form(" + w + ", 2)", BAD, x.form(w, 2));
        }
        for (int q : of(1, 0, -2, 4, 5, Integer.MIN_VALUE, Integer.MAX_VALUE)) {
            is("form(0, " + q + ")", BAD, x.form(0, q));
        }
        is("form(0, 2)", 15, x.form(0, 2));
        is("kind", 2, x.told(0, 0));
        is("L", 15, x.told(0, 2));
        is("s", 2, x.told(0, 3));
        is("t", 2, x.told(0, 4));
        is("fault(0)", 0, x.fault(0));
        lineIs(0, 0, 0, 3, 4);
        lineIs(0, 1, 0, 7, 8);
        lineIs(0, 2, 0, 11, 12);
        lineIs(0, 3, 1, 3, 5);
        lineIs(0, 14, 6, 9, 12);
    }

    /** A form of 3 once more by its words: rows in order, near ones by the form. */
    private static void formOfThree() {
        begin("5 form of 3");
        is("form(0, 3)", 40, x.form(0, 3));
        is("L", 40, x.told(0, 2));
        is("s", 3, x.told(0, 3));
        is("t", 3, x.told(0, 4));
        is("fault(0)", 0, x.fault(0));
        int[][] rows = new int[40][];
        int size = 0;
        for (int n = 1; n < 81; n++) {
            int[] row = {n / 27, n / 9 % 3, n / 3 % 3, n % 3};
            int first = row[0] != 0 ? row[0] : row[1] != 0 ? row[1] : row[2] != 0 ? row[2] : row[3];
            if (first == 1) {
                rows[size++] = row;
            }
        }
        is("how many rows", 40, size);
        for (int a = 0; a < 40; a++) {
            long near = 0;
            for (int b = 0; b < 40; b++) {
                int value = rows[a][0] * rows[b][1] - rows[a][1] * rows[b][0] + rows[a][2] * rows[b][3] - rows[a][3] * rows[b][2];
                near |= value % 3 == 0 ? 1L << b : 0;
            }
            is("perp of " + a, 13, x.perp(0, 1L << a));
            is("perp of " + a + " told", near, x.asked());
        }
        // in the order of their sets: by the least point, then by the next
        long before = -1;
        for (int i = 0; i < 40; i++) {
            is("points(0, " + i + ")", 4, x.points(0, i));
            long set = x.asked();
            long key = Long.numberOfTrailingZeros(set) * 64L + Long.numberOfTrailingZeros(set & set - 1);
            is("line " + i + " behind the one ahead", 1, key > before ? 1 : 0);
            before = key;
        }
    }

    private static void dual() {
        begin("6 dual");
        x.grid(0, 2, 3);
        is("dual(0, 1)", 5, x.dual(0, 1));
        is("kind", 3, x.told(1, 0));
        is("P", 5, x.told(1, 1));
        is("L", 6, x.told(1, 2));
        lineIs(1, 0, 0, 2);
        lineIs(1, 1, 0, 3);
        lineIs(1, 2, 0, 4);
        lineIs(1, 3, 1, 2);
        lineIs(1, 4, 1, 3);
        lineIs(1, 5, 1, 4);
        is("the first one stays", 1, x.told(0, 0));
        is("dual(1, 1): its own place", 6, x.dual(1, 1));
        is("L of it", 5, x.told(1, 2));
        lineIs(1, 0, 0, 1, 2);
        lineIs(1, 4, 2, 5);
        is("kind of it", 3, x.told(1, 0));
        for (int w : NO_WORLD) {
            is("dual(" + w + ", 0)", BAD, x.dual(w, 0));
            is("dual(0, " + w + ")", BAD, x.dual(0, w));
        }
        finds("dual(4, 0)", NOTHING, x.dual(4, 0));
        x.world(2, 3);
        is("dual(2, 3): no lines", STATE, x.dual(2, 3));
        tell(2, 3, of(0, 1), of(0, 1, 2));
        is("dual(2, 3): point 2 on one line", STATE, x.dual(2, 3));
        lay(0, 0, 2);
        x.line(2, 0);
        is("dual(2, 3): all on two or more", 3, x.dual(2, 3));
        lineIs(3, 0, 0, 1, 2);
        lineIs(3, 1, 0, 1);
        lineIs(3, 2, 1, 2);
        is("dual over another world", 3, x.dual(2, 0));
        is("that one's kind", 3, x.told(0, 0));
    }

    private static void derive() {
        begin("7 derive");
        x.form(0, 2);
        is("derive(0, 0, 2)", 8, x.derive(0, 0, 2));
        is("kind", 3, x.told(2, 0));
        is("L", 16, x.told(2, 2));
        is("s", 1, x.told(2, 3));
        is("t", 3, x.told(2, 4));
        is("fault(2)", 0, x.fault(2));
        // POINT 0 is NEAR to 0, 3, 4, 7, 8, 11, 12; left are 1, 2, 5, 6, 9, 10, 13, 14
        int[] left = of(1, 2, 5, 6, 9, 10, 13, 14);
        int number = 0;
        for (int i = 0; i < 15; i++) {
            x.points(0, i);
            long set = x.asked();
            if ((set & 1) == 0) {
                is("points(2, " + number + ")", 2, x.points(2, number));
                is("line " + number, among(left, set), x.asked());
                number++;
            }
        }
        is("lines not through it", 12, number);
        long[] spans = new long[4];
        int many = 0;
        for (int y : left) {
            x.span(0, 0, y);
            long rest = x.asked() & ~1L;
            if (Long.numberOfTrailingZeros(rest) == y) {
                spans[many++] = among(left, rest);
            }
        }
        is("spans", 4, many);
        for (int i = 0; i < 4; i++) {
            x.points(2, 12 + i);
            is("span " + i, spans[i], x.asked());
        }
        is("the first one stays", 15, x.told(0, 1));
        is("derive(0, 14, 0): its own place", 8, x.derive(0, 14, 0));
        is("alike to the other one", 1, x.alike(0, 2, 100000));
    }

    private static long among(int[] left, long set) {
        long answer = 0;
        for (int i = 0; i < left.length; i++) {
            answer |= (set >>> left[i] & 1) << i;
        }
        return answer;
    }

    private static void deriveOfThree() {
        begin("7 derive of 3");
        x.form(0, 3);
        for (int p = 0; p < 40; p += 13) {
            is("derive(0, " + p + ", 1)", 27, x.derive(0, p, 1));
            is("L", 45, x.told(1, 2));
            is("s", 2, x.told(1, 3));
            is("t", 4, x.told(1, 4));
            is("fault", 0, x.fault(1));
        }
        // the dual one is right with s = t = 3, and none of its points is regular
        x.dual(0, 2);
        is("regular(2, 0)", 0, x.regular(2, 0));
        is("derive(2, 0, 3): not regular", STATE, x.derive(2, 0, 3));
        finds("told(3, 0)", NOTHING, x.told(3, 0));
        is("derive(1, 0, 3): s and t unlike", STATE, x.derive(1, 0, 3));
    }

    private static void deriveRefused() {
        begin("7 derive, refused");
        x.form(0, 2);
        for (int w : NO_WORLD) {
            is("derive(" + w + ", 0, 1)", BAD, x.derive(w, 0, 1));
            is("derive(0, 0, " + w + ")", BAD, x.derive(0, 0, w));
        }
        finds("derive(1, 99, 2)", NOTHING, x.derive(1, 99, 2));
        for (int p : of(-1, 15, 64, Integer.MIN_VALUE, Integer.MAX_VALUE)) {
            finds("derive(0, " + p + ", 2)", BEYOND, x.derive(0, p, 2));
        }
        x.grid(1, 3, 3);
        is("a grid: s 2, t 1", STATE, x.derive(1, 0, 2));
        finds("a grid, point 9", BEYOND, x.derive(1, 9, 2));
        x.grid(1, 2, 2);
        is("a grid: s and t 1", STATE, x.derive(1, 0, 2));
        x.world(1, 4);
        is("no lines", STATE, x.derive(1, 0, 2));
        // s and t are 2, but it is not right: the plane of seven points, each two of them on a line
        tell(1, 7, of(0, 1, 2), of(0, 3, 4), of(0, 5, 6), of(1, 3, 5), of(1, 4, 6), of(2, 3, 6), of(2, 4, 5));
        is("s of the plane", 2, x.told(1, 3));
        is("t of the plane", 2, x.told(1, 4));
        is("regular(1, 0) in the plane", 1, x.regular(1, 0));
        is("the plane", STATE, x.derive(1, 0, 2));
        finds("told(2, 0)", NOTHING, x.told(2, 0));
    }

    private static void part() {
        begin("8 part");
        x.grid(0, 3, 3);
        is("part(0, corners, 1)", 4, x.part(0, bits(0, 2, 6, 8), 1));
        is("kind", 3, x.told(1, 0));
        is("L", 4, x.told(1, 2));
        lineIs(1, 0, 0, 1);
        lineIs(1, 1, 2, 3);
        lineIs(1, 2, 0, 2);
        lineIs(1, 3, 1, 3);
        is("part(0, 0 1 4 8, 1)", 4, x.part(0, bits(0, 1, 4, 8), 1));
        is("L", 2, x.told(1, 2));
        lineIs(1, 0, 0, 1);
        lineIs(1, 1, 1, 2);
        is("part(0, diagonal, 1): no lines", STATE, x.part(0, bits(0, 4, 8), 1));
        is("part(0, none, 1)", STATE, x.part(0, 0, 1));
        is("part(0, one, 1)", STATE, x.part(0, 1, 1));
        is("the place keeps what stood there", 2, x.told(1, 2));
        for (int w : NO_WORLD) {
            is("part(" + w + ", 3, 1)", BAD, x.part(w, 3, 1));
            is("part(0, 3, " + w + ")", BAD, x.part(0, 3, w));
        }
        is("a bit beyond P", BAD, x.part(0, bits(0, 1, 9), 1));
        is("bit 63", BAD, x.part(0, Long.MIN_VALUE | 3, 1));
        is("all bits", BAD, x.part(0, -1, 1));
        finds("no world", NOTHING, x.part(2, 3, 1));
        finds("no world and odd bits", NOTHING, x.part(2, -1, 1));
        is("all, into its own place", 9, x.part(0, 511, 0));
        is("kind of it", 3, x.told(0, 0));
        is("L of it", 6, x.told(0, 2));
        // lines that become alike stay two
        tell(2, 4, of(0, 1, 2), of(0, 1, 3));
        is("part(2, 0 1, 3)", 2, x.part(2, 3, 3));
        is("L of it", 2, x.told(3, 2));
        lineIs(3, 0, 0, 1);
        lineIs(3, 1, 0, 1);
        x.world(4, 45);
        lay(0, 43, 44, 0);
        x.line(4, 0);
        is("the last points of 45", 2, x.part(4, 3L << 43, 5));
        lineIs(5, 0, 0, 1);
    }

    private static void drop() {
        begin("9 drop");
        for (int w : NO_WORLD) {
            is("drop(" + w + ")", BAD, x.drop(w));
        }
        finds("drop(0)", NOTHING, x.drop(0));
        for (int w = 0; w < 6; w++) {
            x.grid(w, 2, 2);
            is("drop(" + w + ")", 1, x.drop(w));
            finds("drop(" + w + ") once more", NOTHING, x.drop(w));
        }
        is("count(0)", 0, x.count(0));
        x.grid(0, 2, 3);
        x.dual(0, 1);
        is("drop(0)", 1, x.drop(0));
        is("what was made of it stays", 5, x.told(1, 1));
    }

    private static void told() {
        begin("10 told");
        for (int w : NO_WORLD) {
            is("told(" + w + ", 0)", BAD, x.told(w, 0));
        }
        finds("told(0, 0)", NOTHING, x.told(0, 0));
        x.grid(0, 3, 4);
        for (int what : of(-1, 5, Integer.MIN_VALUE, Integer.MAX_VALUE)) {
            is("told(0, " + what + ")", BAD, x.told(0, what));
            is("told(1, " + what + ")", BAD, x.told(1, what));
        }
        is("kind of a grid", 1, x.told(0, 0));
        is("P", 12, x.told(0, 1));
        is("L", 7, x.told(0, 2));
        is("s", NONE, x.told(0, 3));
        is("t", 1, x.told(0, 4));
        tell(1, 5, of(0, 1), of(1, 2), of(3, 4));
        is("s of a told one", 1, x.told(1, 3));
        is("t of a told one", NONE, x.told(1, 4));
        tell(1, 4, of(0, 1), of(2, 3));
        is("t of 0", 0, x.told(1, 4));
        tell(1, 3, of(0, 1));
        is("t with a point on no line", NONE, x.told(1, 4));
        x.world(1, 3);
        is("s without lines", NONE, x.told(1, 3));
        is("t without lines", NONE, x.told(1, 4));
        tell(1, 3, of(0, 1, 2), of(0, 1, 2));
        is("s of all", 2, x.told(1, 3));
        is("t of all", 1, x.told(1, 4));
        tell(1, 4, of(0, 1, 2), of(3, 2));
        is("s: the last line unlike", NONE, x.told(1, 3));
    }

    private static void mark() {
        begin("11 mark");
        for (int w : NO_WORLD) {
            is("mark(" + w + ", 1)", BAD, x.mark(w, 1));
        }
        for (int k : of(0, -1, 4, Integer.MIN_VALUE, Integer.MAX_VALUE)) {
            is("mark(0, " + k + ")", BAD, x.mark(0, k));
        }
        finds("mark(0, 1)", NOTHING, x.mark(0, 1));
        x.world(0, 3);
        is("mark(0, 0)", BAD, x.mark(0, 0));
        for (int k = 1; k < 4; k++) {
            finds("mark(0, " + k + ") of a told one", UNLIKE, x.mark(0, k));
        }
        x.grid(1, 5, 4);
        is("a grid's a", 5, x.mark(1, 1));
        finds("a grid as a form", UNLIKE, x.mark(1, 2));
        finds("a grid as a made one", UNLIKE, x.mark(1, 3));
        x.form(2, 2);
        is("a form's q", 2, x.mark(2, 2));
        x.form(3, 3);
        is("a form's q", 3, x.mark(3, 2));
        finds("a form as a grid", UNLIKE, x.mark(3, 1));
        x.dual(1, 4);
        is("a made one", 4, x.mark(4, 3));
        x.derive(2, 3, 4);
        is("another made one", 4, x.mark(4, 3));
        x.part(1, bits(0, 5, 9, 10), 4);
        is("a part, its point 0 on no line", 0, x.mark(4, 3));
    }

    private static void pointsAndLines() {
        begin("12, 13 points and lines");
        for (int w : NO_WORLD) {
            is("points(" + w + ", 0)", BAD, x.points(w, 0));
            is("lines(" + w + ", 0)", BAD, x.lines(w, 0));
        }
        finds("points(0, 0)", NOTHING, x.points(0, 0));
        finds("lines(0, 0)", NOTHING, x.lines(0, 0));
        x.world(0, 3);
        finds("points(0, 0) without lines", BEYOND, x.points(0, 0));
        is("lines(0, 0) without lines", 0, x.lines(0, 0));
        is("asked()", 0, x.asked());
        x.grid(0, 2, 4);
        for (int i : of(-1, 6, 64, Integer.MIN_VALUE, Integer.MAX_VALUE)) {
            finds("points(0, " + i + ")", BEYOND, x.points(0, i));
        }
        for (int i : of(-1, 8, 64, Integer.MIN_VALUE, Integer.MAX_VALUE)) {
            finds("lines(0, " + i + ")", BEYOND, x.lines(0, i));
        }
        lineIs(0, 1, 4, 5, 6, 7);
        lineIs(0, 5, 3, 7);
        is("lines(0, 7)", 2, x.lines(0, 7));
        is("asked()", bits(1, 5), x.asked());
        is("lines(0, 0)", 2, x.lines(0, 0));
        is("asked()", bits(0, 2), x.asked());
    }

    private static void fault() {
        begin("14 fault");
        for (int w : NO_WORLD) {
            is("fault(" + w + ")", BAD, x.fault(w));
        }
        finds("fault(0)", NOTHING, x.fault(0));
        x.world(0, 5);
        is("no lines", 0, x.fault(0));
        is("asked()", 0, x.asked());
        tell(0, 4, of(0, 1), of(2, 3), of(1, 2), of(1, 2));
        is("alike lines, behind a line that none meets", 1, x.fault(0));
        is("asked()", 203, x.asked());
        tell(0, 6, of(0, 1, 2), of(3, 4, 5), of(3, 5), of(0, 2));
        is("two points together", 1, x.fault(0));
        is("asked()", 3, x.asked());
        tell(0, 4, of(0, 1), of(1, 2), of(2, 3));
        is("none that meets", 2, x.fault(0));
        is("asked()", 3, x.asked());
        tell(0, 3, of(0, 1), of(1, 2), of(2, 0));
        is("a three", 3, x.fault(0));
        is("asked()", 2, x.asked());
        tell(0, 4, of(1, 2), of(1, 3), of(2, 3));
        is("a point on no line ahead of a three", 2, x.fault(0));
        is("asked()", 0, x.asked());
        tell(0, 5, of(0, 1), of(1, 2), of(2, 3), of(3, 0), of(0, 4));
        is("point 4", 2, x.fault(0));
        is("asked()", 104, x.asked());
        x.points(0, 0);
        x.form(0, 3);
        is("a form", 0, x.fault(0));
        is("asked() stays with 0", 3, x.asked());
        tell(0, 2, of(0, 1));
        is("one line of all", 0, x.fault(0));
        tell(0, 3, of(0, 1));
        is("one line, a point off it", 2, x.fault(0));
        is("asked()", 2, x.asked());
    }

    private static void mean() {
        begin("15 mean");
        for (int w : NO_WORLD) {
            is("mean(" + w + ")", BAD, x.mean(w));
        }
        finds("mean(0)", NOTHING, x.mean(0));
        x.world(0, 9);
        finds("mean(0) without lines", NOUGHT, x.mean(0));
        tell(0, 9, of(0, 1, 2, 3), of(0, 1));
        is("of 4 and 2", 3, x.mean(0));
        tell(0, 9, of(0, 1, 2, 3), of(0, 1), of(0, 2));
        is("of 4, 2, 2", 2, x.mean(0));
        tell(0, 9, of(0, 1, 2, 3), of(0, 1, 5), of(0, 2, 4, 6));
        is("of 4, 3, 4", 3, x.mean(0));
        x.grid(0, 6, 2);
        is("of a grid", 3, x.mean(0));
    }

    private static void perp() {
        begin("16 perp");
        for (int w : NO_WORLD) {
            is("perp(" + w + ", 0)", BAD, x.perp(w, 0));
        }
        finds("perp(0, 0)", NOTHING, x.perp(0, 0));
        finds("perp(0, -1)", NOTHING, x.perp(0, -1));
        x.grid(0, 3, 3);
        is("a bit beyond P", BAD, x.perp(0, 512));
        is("bit 63", BAD, x.perp(0, Long.MIN_VALUE));
        is("of none", 9, x.perp(0, 0));
        is("asked()", 511, x.asked());
        is("of 4", 5, x.perp(0, 16));
        is("asked()", bits(1, 3, 4, 5, 7), x.asked());
        is("of 0 and 4", 2, x.perp(0, bits(0, 4)));
        is("asked()", bits(1, 3), x.asked());
        is("of 0 and 1", 3, x.perp(0, 3));
        is("asked()", bits(0, 1, 2), x.asked());
        is("of 0, 4, 8", 0, x.perp(0, bits(0, 4, 8)));
        is("asked()", 0, x.asked());
        x.world(0, 45);
        is("alone", 1, x.perp(0, 1L << 44));
        is("asked()", 1L << 44, x.asked());
        is("of none of 45", 45, x.perp(0, 0));
        is("asked()", (1L << 45) - 1, x.asked());
        is("bit 45", BAD, x.perp(0, 1L << 45));
    }

    private static void span() {
        begin("17 span");
        for (int w : NO_WORLD) {
            is("span(" + w + ", 0, 1)", BAD, x.span(w, 0, 1));
        }
        finds("span(0, 0, 1)", NOTHING, x.span(0, 0, 1));
        x.grid(0, 3, 3);
        for (int p : of(-1, 9, Integer.MIN_VALUE, Integer.MAX_VALUE)) {
            finds("span(0, " + p + ", 0)", BEYOND, x.span(0, p, 0));
            finds("span(0, 0, " + p + ")", BEYOND, x.span(0, 0, p));
        }
        is("near ones", STATE, x.span(0, 0, 1));
        is("near ones in a column", STATE, x.span(0, 8, 2));
        is("alike ones", STATE, x.span(0, 4, 4));
        is("span(0, 0, 4)", 2, x.span(0, 0, 4));
        is("asked()", bits(0, 4), x.asked());
        tell(0, 5, of(0, 1), of(1, 2), of(1, 3));
        is("three about one", 4, x.span(0, 0, 3));
        is("asked()", bits(0, 1, 2, 3), x.asked());
        is("none near both: all", 5, x.span(0, 0, 4));
        is("asked()", 31, x.asked());
    }

    private static void regular() {
        begin("18 regular");
        for (int w : NO_WORLD) {
            is("regular(" + w + ", 0)", BAD, x.regular(w, 0));
        }
        finds("regular(0, 0)", NOTHING, x.regular(0, 0));
        x.world(0, 3);
        is("no t", STATE, x.regular(0, 0));
        finds("no t, point 3", BEYOND, x.regular(0, 3));
        finds("point -1", BEYOND, x.regular(0, -1));
        x.form(0, 2);
        for (int p = 0; p < 15; p++) {
            is("regular(0, " + p + ")", 1, x.regular(0, p));
        }
        x.form(0, 3);
        is("of 3", 1, x.regular(0, 39));
        x.dual(0, 1);
        is("of 3, turned", 0, x.regular(1, 39));
        x.derive(0, 0, 1);
        is("of 3, made", 0, x.regular(1, 5));
        x.grid(0, 2, 5);
        is("a grid", 1, x.regular(0, 7));
        tell(0, 3, of(0, 1, 2), of(0, 1, 2));
        is("none that is not near", 1, x.regular(0, 2));
        tell(0, 4, of(0, 1), of(2, 3));
        is("spans of all, t of 0", 0, x.regular(0, 2));
        tell(0, 3, of(0, 1), of(1, 2));
        is("t unlike", STATE, x.regular(0, 0));
        tell(0, 4, of(0, 1), of(0, 1), of(0, 2), of(0, 2), of(3, 1), of(3, 1), of(3, 2), of(3, 2));
        is("a ring told twice, point 0 alone not near", 0, x.regular(0, 3));
        is("a ring told twice, point 3 alone not near", 0, x.regular(0, 0));
    }

    private static void centres() {
        begin("19 centres");
        for (int w : NO_WORLD) {
            is("centres(" + w + ", 0, 0, 0)", BAD, x.centres(w, 0, 0, 0));
        }
        finds("centres(0, 0, 0, 0)", NOTHING, x.centres(0, 0, 0, 0));
        x.grid(0, 3, 3);
        for (int p : of(-1, 9, Integer.MIN_VALUE, Integer.MAX_VALUE)) {
            finds("centres of " + p + " first", BEYOND, x.centres(0, p, 0, 0));
            finds("centres of " + p + " next", BEYOND, x.centres(0, 0, p, 0));
            finds("centres of " + p + " last", BEYOND, x.centres(0, 0, 0, p));
        }
        is("alike", 5, x.centres(0, 4, 4, 4));
        is("two alike", 2, x.centres(0, 0, 4, 0));
        is("on a line", 3, x.centres(0, 0, 1, 2));
        is("0, 4, 8", 0, x.centres(0, 0, 4, 8));
        is("0, 4, 1", 1, x.centres(0, 0, 4, 1));
        long asked = x.asked();
        x.form(1, 2);
        is("in a form", 1, x.centres(1, 0, 5, 9));
        is("asked() stays", asked, x.asked());
    }

    private static void ovoid() {
        begin("20 ovoid");
        for (int w : NO_WORLD) {
            is("ovoid(" + w + ", 5)", BAD, x.ovoid(w, 5));
        }
        for (int n : of(0, -1, 100001, Integer.MIN_VALUE, Integer.MAX_VALUE)) {
            is("ovoid(0, " + n + ")", BAD, x.ovoid(0, n));
        }
        finds("ovoid(0, 5)", NOTHING, x.ovoid(0, 5));
        x.grid(0, 3, 3);
        is("a grid", 3, x.ovoid(0, 100000));
        is("asked()", bits(0, 4, 8), x.asked());
        is("tries()", 3, x.tries());
        is("by just as many", 3, x.ovoid(0, 3));
        is("by one less", SPENT, x.ovoid(0, 2));
        is("tries()", 2, x.tries());
        is("asked() stays", bits(0, 4, 8), x.asked());
        x.grid(0, 3, 2);
        is("a grid of unlike sides", NONE, x.ovoid(0, 1000));
        is("tries()", 4, x.tries());
        is("asked() stays", bits(0, 4, 8), x.asked());
        is("NONE by just as many", NONE, x.ovoid(0, 4));
        is("NONE by one less", SPENT, x.ovoid(0, 3));
        x.form(0, 2);
        is("a form", 5, x.ovoid(0, 6));
        is("asked()", 17475, x.asked());
        is("a form by one less", SPENT, x.ovoid(0, 5));
        x.form(0, 3);
        is("a form of 3", NONE, x.ovoid(0, 530));
        is("a form of 3 by one less", SPENT, x.ovoid(0, 529));
        x.world(0, 3);
        is("no lines", 0, x.ovoid(0, 1));
        is("asked()", 0, x.asked());
        is("tries()", 0, x.tries());
        // it goes back: 0 is near to all of the second line
        tell(0, 5, of(0, 1), of(2, 3), of(0, 2), of(0, 3, 4));
        is("back", 3, x.ovoid(0, 4));
        is("asked()", bits(1, 2, 4), x.asked());
        is("tries()", 4, x.tries());
        is("back by one less", SPENT, x.ovoid(0, 3));
    }

    private static void spread() {
        begin("21 spread");
        for (int w : NO_WORLD) {
            is("spread(" + w + ", 5)", BAD, x.spread(w, 5));
        }
        for (int n : of(0, -1, 100001, Integer.MIN_VALUE, Integer.MAX_VALUE)) {
            is("spread(0, " + n + ")", BAD, x.spread(0, n));
        }
        finds("spread(0, 5)", NOTHING, x.spread(0, 5));
        x.world(0, 3);
        is("no lines", NONE, x.spread(0, 1));
        is("tries()", 0, x.tries());
        x.grid(0, 3, 4);
        is("a grid", 3, x.spread(0, 3));
        is("asked()", 7, x.asked());
        is("tries()", 3, x.tries());
        is("a grid by one less", SPENT, x.spread(0, 2));
        is("tries()", 2, x.tries());
        is("asked() stays", 7, x.asked());
        tell(0, 4, of(0, 1), of(1, 2), of(0, 3), of(2, 3));
        is("it needs no way back", 2, x.spread(0, 2));
        is("asked()", bits(0, 3), x.asked());
        tell(0, 4, of(0, 1), of(0, 3), of(1, 2));
        is("it goes back", 2, x.spread(0, 3));
        is("asked()", bits(1, 2), x.asked());
        is("tries()", 3, x.tries());
        is("not by 2", SPENT, x.spread(0, 2));
        tell(0, 4, of(0, 1), of(0, 2), of(1, 3), of(0, 1, 2, 3));
        is("2 and 3", 2, x.spread(0, 9));
        is("asked()", bits(1, 2), x.asked());
        tell(0, 3, of(0, 1), of(1, 2));
        is("none", NONE, x.spread(0, 9));
        is("tries()", 1, x.tries());
        is("asked() stays", bits(1, 2), x.asked());
    }

    private static void ovoids() {
        begin("22 ovoids");
        for (int w : NO_WORLD) {
            is("ovoids(" + w + ", 5)", BAD, x.ovoids(w, 5));
        }
        for (int n : of(0, -1, 100001, Integer.MIN_VALUE, Integer.MAX_VALUE)) {
            is("ovoids(0, " + n + ")", BAD, x.ovoids(0, n));
        }
        finds("ovoids(0, 5)", NOTHING, x.ovoids(0, 5));
        x.world(0, 4);
        is("no lines", 1, x.ovoids(0, 1));
        is("asked()", 1, x.asked());
        long factorial = 1;
        for (int a = 2; a <= 6; a++) {
            factorial *= a;
            x.grid(0, a, a);
            is("a grid of " + a, 1, x.ovoids(0, 100000));
            is("asked() of a grid of " + a, factorial, x.asked());
        }
        is("tries() of 6 by 6", 6 + 30 + 120 + 360 + 720 + 720, x.tries());
        is("by just as many", 1, x.ovoids(0, 1956));
        is("by one less", SPENT, x.ovoids(0, 1955));
        is("tries()", 1955, x.tries());
        is("asked() stays", 720, x.asked());
        x.grid(0, 2, 3);
        is("none", 1, x.ovoids(0, 10));
        is("asked()", 0, x.asked());
        x.form(0, 2);
        is("a form", 1, x.ovoids(0, 32));
        is("asked()", 6, x.asked());
        is("a form by one less", SPENT, x.ovoids(0, 31));
    }

    private static void tries() {
        begin("23 tries");
        is("before", 0, x.tries());
        x.grid(0, 3, 3);
        x.ovoid(0, 9);
        is("of ovoid()", 3, x.tries());
        x.ovoid(0, 0);
        is("a BAD ovoid() does not count", 3, x.tries());
        x.ovoid(1, 9);
        is("nor one with a FINDING", 3, x.tries());
        x.spread(6, 9);
        x.ovoids(2, 9);
        x.alike(0, 1, 9);
        x.alike(0, 0, 0);
        is("nor others", 3, x.tries());
        x.ovoids(0, 100);
        is("of ovoids()", 3 + 6 + 6, x.tries());
        x.ovoids(0, 14);
        is("of a SPENT one", 14, x.tries());
        x.spread(0, 100);
        is("of spread()", 3, x.tries());
        x.alike(0, 0, 100);
        is("of alike()", 9, x.tries());
        x.alike(0, 0, 8);
        is("of a SPENT alike()", 8, x.tries());
        x.grid(1, 2, 3);
        x.alike(0, 1, 8);
        is("of unlike numbers", 0, x.tries());
    }

    private static void meets() {
        begin("24 meets");
        for (int w : NO_WORLD) {
            is("meets(" + w + ", 0, true)", BAD, x.meets(w, 0, true));
        }
        finds("meets(0, 0, true)", NOTHING, x.meets(0, 0, true));
        finds("meets(0, -1, true)", NOTHING, x.meets(0, -1, true));
        x.world(0, 4);
        finds("no lines", NOUGHT, x.meets(0, 1, false));
        is("no lines, a bit beyond P", BAD, x.meets(0, 16, false));
        x.grid(0, 3, 4);
        is("a bit beyond P", BAD, x.meets(0, 1 << 12, true));
        is("bit 63", BAD, x.meets(0, Long.MIN_VALUE, true));
        is("none, most", 0, x.meets(0, 0, true));
        is("none, least", 0, x.meets(0, 0, false));
        is("all, most", 4, x.meets(0, 4095, true));
        is("all, least", 3, x.meets(0, 4095, false));
        is("a line, most", 4, x.meets(0, 15, true));
        is("a line, least", 0, x.meets(0, 15, false));
        is("0, 5, 10, 3: most", 2, x.meets(0, bits(0, 5, 10, 3), true));
        is("0, 5, 10, 3: least", 1, x.meets(0, bits(0, 5, 10, 3), false));
    }

    private static void rank() {
        begin("25 rank");
        for (int w : NO_WORLD) {
            is("rank(" + w + ", 2)", BAD, x.rank(w, 2));
        }
        for (int r : of(0, 1, 4, 6, 7, -2, Integer.MIN_VALUE, Integer.MAX_VALUE)) {
            is("rank(0, " + r + ")", BAD, x.rank(0, r));
        }
        finds("rank(0, 2)", NOTHING, x.rank(0, 2));
        x.world(0, 4);
        is("no lines", 0, x.rank(0, 5));
        tell(0, 3, of(0, 1), of(1, 2), of(2, 0));
        is("a three by 2", 2, x.rank(0, 2));
        is("a three by 3", 3, x.rank(0, 3));
        is("a three by 5", 3, x.rank(0, 5));
        // all but one of four: the sum of the rows is three times all
        tell(0, 4, of(1, 2, 3), of(0, 2, 3), of(0, 1, 3), of(0, 1, 2));
        is("all but one of 4 by 2", 4, x.rank(0, 2));
        is("all but one of 4 by 3", 3, x.rank(0, 3));
        is("all but one of 4 by 5", 4, x.rank(0, 5));
        tell(0, 6, of(1, 2, 3, 4, 5), of(0, 2, 3, 4, 5), of(0, 1, 3, 4, 5), of(0, 1, 2, 4, 5), of(0, 1, 2, 3, 5), of(0, 1, 2, 3, 4));
        is("all but one of 6 by 2", 6, x.rank(0, 2));
        is("all but one of 6 by 3", 6, x.rank(0, 3));
        is("all but one of 6 by 5", 5, x.rank(0, 5));
        tell(0, 7, of(0, 1, 2), of(0, 3, 4), of(0, 5, 6), of(1, 3, 5), of(1, 4, 6), of(2, 3, 6), of(2, 4, 5));
        is("the plane of seven by 2", 4, x.rank(0, 2));
        is("the plane of seven by 3", 6, x.rank(0, 3));
        is("the plane of seven by 5", 7, x.rank(0, 5));
        x.grid(0, 6, 5);
        is("a grid", 10, x.rank(0, 3));
        x.form(0, 3);
        is("a form of 3 by 3", 25, x.rank(0, 3));
        tell(0, 5, of(3, 4), of(3, 4), of(0, 4));
        is("alike lines", 2, x.rank(0, 2));
    }

    private static void alike() {
        begin("26 alike");
        x.grid(0, 3, 4);
        for (int w : NO_WORLD) {
            is("alike(" + w + ", 0, 5)", BAD, x.alike(w, 0, 5));
            is("alike(0, " + w + ", 5)", BAD, x.alike(0, w, 5));
        }
        for (int n : of(0, -1, 100001, Integer.MIN_VALUE, Integer.MAX_VALUE)) {
            is("alike(0, 0, " + n + ")", BAD, x.alike(0, 0, n));
        }
        finds("alike(0, 1, 5)", NOTHING, x.alike(0, 1, 5));
        finds("alike(1, 0, 5)", NOTHING, x.alike(1, 0, 5));
        finds("alike(1, 1, 5)", NOTHING, x.alike(1, 1, 5));
        is("by just as many", 1, x.alike(0, 0, 12));
        is("by one less", SPENT, x.alike(0, 0, 11));
        x.grid(1, 4, 3);
        is("turned grids", 1, x.alike(0, 1, 16));
        is("turned grids by one less", SPENT, x.alike(0, 1, 15));
        x.grid(1, 2, 6);
        is("unlike numbers of lines", 0, x.alike(0, 1, 1));
        is("without a try", 0, x.tries());
        x.grid(1, 3, 3);
        is("unlike numbers of points", 0, x.alike(0, 1, 1));
        x.form(0, 2);
        x.dual(0, 1);
        is("a form and its turned one", 1, x.alike(0, 1, 1000));
        x.world(0, 3);
        x.world(1, 3);
        is("without lines", 1, x.alike(0, 1, 3));
        is("tries()", 3, x.tries());
        is("without lines by 2", SPENT, x.alike(0, 1, 2));
    }

    private static void alikeLines() {
        begin("26 alike, the lines");
        // as many points and lines, other numbers of lines through points
        tell(0, 4, of(0, 1), of(1, 2), of(2, 3));
        tell(1, 4, of(0, 1), of(0, 2), of(0, 3));
        is("a way and a star", 0, x.alike(0, 1, 100));
        is("tries()", 3, x.tries());
        is("a star and a way", 0, x.alike(1, 0, 100));
        is("tries()", 0, x.tries());
        // all near all, each on as many lines; only the lines tell them apart
        tell(0, 3, of(0, 1, 2), of(0, 1, 2), of(0, 1), of(1, 2), of(0, 2));
        tell(1, 3, of(0, 1, 2), of(0, 1, 2), of(0, 1), of(0, 1), of(0, 1, 2));
        is("unlike through numbers", 0, x.alike(0, 1, 100));
        // lines that are alike count as many times
        tell(0, 4, of(0, 1), of(0, 1), of(2, 3), of(0, 1, 2, 3));
        tell(1, 4, of(0, 1), of(2, 3), of(2, 3), of(0, 1, 2, 3));
        is("a line twice, and the other one", 1, x.alike(0, 1, 100));
        is("sent(0)", 2, x.sent(0));
        is("sent(1)", 3, x.sent(1));
        is("sent(2)", 0, x.sent(2));
        is("sent(3)", 1, x.sent(3));
        tell(0, 4, of(0, 1), of(0, 1), of(2, 3), of(2, 3), of(0, 1, 2, 3));
        tell(1, 4, of(0, 1), of(1, 2), of(2, 3), of(0, 3), of(0, 1, 2, 3));
        is("pairs twice and a ring", 0, x.alike(0, 1, 1000));
        is("each way tried", 4 + 12 + 24 + 24, x.tries());
        is("by one less", SPENT, x.alike(0, 1, 63));
        is("by just as many", 0, x.alike(0, 1, 64));
        // the first of those that fit, the least places first
        tell(0, 3, of(0, 1));
        tell(1, 3, of(1, 2));
        is("a line and a point", 1, x.alike(0, 1, 10));
        is("sent(0)", 1, x.sent(0));
        is("sent(1)", 2, x.sent(1));
        is("sent(2)", 0, x.sent(2));
        is("tries()", 3, x.tries());
        // near ones to near ones alone, others to others alone
        tell(0, 4, of(0, 1), of(2, 3));
        tell(1, 4, of(0, 2), of(1, 3));
        is("two lines", 1, x.alike(0, 1, 4));
        is("sent(1)", 2, x.sent(1));
        is("sent(2)", 1, x.sent(2));
    }

    private static void sent() {
        begin("27 sent");
        for (int p : of(0, 44, -1, 45, Integer.MIN_VALUE, Integer.MAX_VALUE)) {
            is("sent(" + p + ") before", NONE, x.sent(p));
        }
        x.grid(0, 2, 3);
        x.grid(1, 3, 2);
        x.alike(0, 1, 100);
        int[] images = of(0, 2, 4, 1, 3, 5);
        for (int p = 0; p < 6; p++) {
            is("sent(" + p + ")", images[p], x.sent(p));
        }
        for (int p : of(-1, 6, Integer.MIN_VALUE, Integer.MAX_VALUE)) {
            is("sent(" + p + ")", NONE, x.sent(p));
        }
        x.world(2, 2);
        x.alike(0, 2, 100);
        is("behind one that was 0", 2, x.sent(1));
        x.alike(1, 0, 5);
        is("behind one that was SPENT", 2, x.sent(1));
        x.alike(0, 5, 5);
        x.alike(0, 1, 0);
        is("behind refused ones", 2, x.sent(1));
        x.drop(0);
        x.drop(1);
        is("behind drop()", 5, x.sent(5));
        x.alike(2, 2, 5);
        is("the latest one", 1, x.sent(1));
        is("no such point any more", NONE, x.sent(2));
    }

    private static void far() {
        begin("28 far");
        for (int w : NO_WORLD) {
            is("far(" + w + ", 0, 0)", BAD, x.far(w, 0, 0));
        }
        finds("far(0, 0, 0)", NOTHING, x.far(0, 0, 0));
        tell(0, 7, of(0, 1), of(1, 2), of(2, 3), of(3, 4), of(4, 5));
        for (int p : of(-1, 7, Integer.MIN_VALUE, Integer.MAX_VALUE)) {
            finds("far(0, " + p + ", 0)", BEYOND, x.far(0, p, 0));
            finds("far(0, 0, " + p + ")", BEYOND, x.far(0, 0, p));
        }
        for (int p = 0; p < 6; p++) {
            is("far(0, 0, " + p + ")", p, x.far(0, 0, p));
            is("far(0, " + p + ", 5)", 5 - p, x.far(0, p, 5));
        }
        is("far(0, 0, 6)", NONE, x.far(0, 0, 6));
        is("far(0, 6, 0)", NONE, x.far(0, 6, 0));
        is("far(0, 6, 6)", 0, x.far(0, 6, 6));
        x.world(1, 45);
        for (int p = 0; p < 44; p++) {
            lay(0, p, p + 1);
            x.line(1, 0);
        }
        is("from end to end", 44, x.far(1, 44, 0));
        x.grid(1, 3, 3);
        is("in a grid, a line", 1, x.far(1, 0, 2));
        is("in a grid, off", 2, x.far(1, 0, 8));
    }

    private static void row() {
        begin("29 row");
        for (int r : NO_ROW) {
            is("row(" + r + ", 1)", BAD, x.row(r, 1));
            is("row(" + r + ", -1)", BAD, x.row(r, -1));
        }
        is("row(0, 13)", BAD, x.row(0, 13));
        is("row(0, most)", BAD, x.row(0, Integer.MAX_VALUE));
        finds("row(0, -1)", SIZE, x.row(0, -1));
        finds("row(0, least)", SIZE, x.row(0, Integer.MIN_VALUE));
        is("count(3)", 0, x.count(3));
        for (int r = 0; r < 4; r++) {
            is("row(" + r + ", 12)", 12, x.row(r, 12));
        }
        is("row(0, 0)", 0, x.row(0, 0));
        is("count(3)", 4, x.count(3));
        x.lay(1, 11, 7);
        is("row(1, 12) anew", 12, x.row(1, 12));
        is("its places are 0", 1000, x.lay(1, 11, 0));
        x.lay(1, 11, 7);
        x.row(1, 3);
        x.row(1, 12);
        is("its places are 0 behind a shorter one", 1000, x.lay(1, 11, 0));
        x.lay(1, 0, 9);
        is("a refused one leaves it", FINDING, x.row(1, -5));
        is("a BAD one leaves it", BAD, x.row(1, 13));
        is("what it was", 1009, x.lay(1, 0, 0));
    }

    private static void lay() {
        begin("30 lay");
        for (int r : NO_ROW) {
            is("lay(" + r + ", 0, 0)", BAD, x.lay(r, 0, 0));
        }
        finds("lay(0, 0, 0)", NOTHING, x.lay(0, 0, 0));
        finds("lay(0, 99, 0)", NOTHING, x.lay(0, 99, 0));
        x.row(0, 3);
        for (int i : of(-1, 3, 12, Integer.MIN_VALUE, Integer.MAX_VALUE)) {
            finds("lay(0, " + i + ", 1)", BEYOND, x.lay(0, i, 1));
        }
        is("lay(0, 2, 5)", 1000, x.lay(0, 2, 5));
        is("lay(0, 2, -1001)", 1005, x.lay(0, 2, -1001));
        is("lay(0, 2, most)", -1, x.lay(0, 2, Integer.MAX_VALUE));
        is("lay(0, 2, least)", Integer.MIN_VALUE + 999, x.lay(0, 2, Integer.MIN_VALUE));
        is("lay(0, 2, 0)", Integer.MIN_VALUE + 1000, x.lay(0, 2, 0));
        is("lay(0, 0, 4)", 1000, x.lay(0, 0, 4));
        is("lay(0, 1, 4)", 1000, x.lay(0, 1, 4));
        x.row(1, 0);
        finds("lay(1, 0, 4)", BEYOND, x.lay(1, 0, 4));
    }

    private static void tear() {
        begin("31 tear");
        for (int r : NO_ROW) {
            is("tear(" + r + ")", BAD, x.tear(r));
        }
        for (int r = 0; r < 4; r++) {
            finds("tear(" + r + ")", NOTHING, x.tear(r));
            x.row(r, r * 4);
            is("tear(" + r + ") of one", 1, x.tear(r));
            finds("tear(" + r + ") once more", NOTHING, x.tear(r));
        }
        lay(0, 1, 2);
        x.tear(0);
        finds("lay(0, 0, 0)", NOTHING, x.lay(0, 0, 0));
        x.row(0, 2);
        is("anew", 1000, x.lay(0, 0, 0));
    }

    private static void copy() {
        begin("32 copy");
        for (int r : NO_ROW) {
            is("copy(" + r + ", 0, 0, 0, -1)", BAD, x.copy(r, 0, 0, 0, -1));
            is("copy(0, 0, " + r + ", 0, -1)", BAD, x.copy(0, 0, r, 0, -1));
        }
        finds("n below 0, no rows", SIZE, x.copy(0, 0, 1, 0, -1));
        finds("no rows", NOTHING, x.copy(0, 99, 1, 99, 1));
        lay(0, 1, 2, 3, 4, 5);
        finds("no other row", NOTHING, x.copy(0, 99, 1, 0, 1));
        finds("no first row", NOTHING, x.copy(1, 0, 0, 99, 1));
        x.row(1, 3);
        is("copy(0, 1, 1, 0, 3)", 1, x.copy(0, 1, 1, 0, 3));
        rowIs(1, 2, 3, 4);
        is("to the front in itself", 1, x.copy(0, 1, 0, 0, 4));
        rowIs(0, 2, 3, 4, 5, 5);
        lay(0, 1, 2, 3, 4, 5);
        is("to the back in itself", 1, x.copy(0, 0, 0, 1, 4));
        rowIs(0, 1, 1, 2, 3, 4);
        int most = Integer.MAX_VALUE;
        int least = Integer.MIN_VALUE;
        int[][] beyond = {{0, 0, 4}, {2, 0, 4}, {0, 1, 3}, {-1, 0, 1}, {0, -1, 1}, {6, 0, 0}, {0, 4, 0}, {-1, 0, 0}, {0, -1, 0},
            {most, 0, 1}, {0, most, 1}, {0, 0, most}, {1, 0, most}, {least, 0, 1}, {0, least, most}, {5, 0, 1}, {0, 3, 1}};
        for (int[] b : beyond) {
            finds("copy(0, " + b[0] + ", 1, " + b[1] + ", " + b[2] + ")", BEYOND, x.copy(0, b[0], 1, b[1], b[2]));
        }
        is("none at the ends", 1, x.copy(0, 5, 1, 3, 0));
        is("none within", 1, x.copy(0, 0, 1, 0, 0));
        rowIs(1, 2, 3, 4);
        finds("n below 0", SIZE, x.copy(0, 9, 1, 9, least));
        x.row(2, 0);
        is("none of an empty one", 1, x.copy(2, 0, 2, 0, 0));
        finds("one of an empty one", BEYOND, x.copy(2, 0, 1, 0, 1));
    }

    private static void rowIs(int r, int... places) {
        for (int i = 0; i < places.length; i++) {
            is("place " + i + " of row " + r, places[i] + 1000, x.lay(r, i, places[i]));
        }
    }

    private static void asked() {
        begin("33 asked");
        is("before", 0, x.asked());
        x.grid(0, 3, 3);
        x.points(0, 0);
        is("points()", 7, x.asked());
        x.points(0, 9);
        x.points(1, 0);
        x.points(6, 0);
        is("refused points()", 7, x.asked());
        x.lines(0, 8);
        is("lines()", bits(2, 5), x.asked());
        x.lines(0, 9);
        x.fault(0);
        is("fault() of 0", bits(2, 5), x.asked());
        x.world(1, 3);
        lay(0, 0, 1);
        x.line(1, 0);
        x.fault(1);
        is("fault() of 2", 2, x.asked());
        x.perp(0, 1);
        is("perp()", bits(0, 1, 2, 3, 6), x.asked());
        x.perp(0, 512);
        x.span(0, 0, 1);
        x.span(0, 0, 9);
        is("refused ones", bits(0, 1, 2, 3, 6), x.asked());
        x.span(0, 0, 8);
        is("span()", bits(0, 8), x.asked());
        x.ovoid(0, 9);
        is("ovoid()", bits(0, 4, 8), x.asked());
        x.spread(0, 9);
        is("spread()", 7, x.asked());
        x.spread(1, 9);
        x.spread(0, 1);
        is("NONE, SPENT", 7, x.asked());
        x.ovoids(0, 100);
        is("ovoids()", 6, x.asked());
        x.ovoids(0, 1);
        is("SPENT ovoids()", 6, x.asked());
        x.told(0, 1);
        x.centres(0, 0, 1, 2);
        x.meets(0, 3, true);
        x.rank(0, 2);
        x.alike(0, 0, 50);
        x.far(0, 0, 8);
        x.regular(0, 0);
        x.mark(0, 1);
        is("others", 6, x.asked());
    }

    private static void count() {
        begin("34 count");
        for (int what : of(-1, 4, Integer.MIN_VALUE, Integer.MAX_VALUE)) {
            is("count(" + what + ")", BAD, x.count(what));
        }
        x.world(0, 7);
        x.grid(5, 2, 3);
        x.form(2, 2);
        x.row(0, 0);
        x.row(3, 4);
        is("worlds", 3, x.count(0));
        is("points", 28, x.count(1));
        is("lines", 20, x.count(2));
        is("rows", 2, x.count(3));
        x.drop(2);
        x.tear(3);
        is("worlds", 2, x.count(0));
        is("points", 13, x.count(1));
        is("lines", 5, x.count(2));
        is("rows", 1, x.count(3));
    }

    private static void findings() {
        begin("35, 36 finding and findings");
        for (int f : of(0, -1, 6, Integer.MIN_VALUE, Integer.MAX_VALUE)) {
            is("findings(" + f + ")", BAD, x.findings(f));
        }
        x.row(0, -1);
        x.row(0, -1);
        is("finding()", SIZE, x.finding());
        x.world(0, 3);
        x.mean(0);
        is("finding()", NOUGHT, x.finding());
        x.mark(0, 1);
        is("finding()", UNLIKE, x.finding());
        x.lines(0, 3);
        x.lines(0, -1);
        x.lines(0, 4);
        is("finding()", BEYOND, x.finding());
        x.drop(1);
        is("finding()", NOTHING, x.finding());
        x.world(0, 99);
        x.dual(0, 1);
        x.lines(0, 0);
        is("finding() stays", NOTHING, x.finding());
        int[] due = of(1, 3, 1, 1, 2);
        for (int f = 1; f <= 5; f++) {
            is("findings(" + f + ")", due[f - 1], x.findings(f));
        }
        is("findings() is no finding", NOTHING, x.finding());
    }

    private static void digest() {
        begin("37 digest");
        tell(1, 45, of(0, 44), of(1, 2, 3));
        x.grid(4, 2, 2);
        lay(2, -5, Integer.MAX_VALUE);
        x.row(3, 0);
        long[] told = {-1, 45, 2, 0, 1 | 1L << 44, 14, -1, -1, 4, 4, 1, 3, 12, 5, 10, -1, -1, -1, 2, -5, Integer.MAX_VALUE, 0};
        long h = 17;
        for (long v : told) {
            h = 31 * h + v;
        }
        is("digest()", h, x.digest());
        x.points(4, 0);
        x.ovoids(4, 100);
        x.alike(4, 4, 100);
        x.mark(1, 2);
        is("digest() behind questions", h, x.digest());
    }

    /** What is refused changes nothing but finding() and findings(). */
    private static void refusedChangesNothing() {
        begin("refused calls");
        tell(0, 4, of(0, 1), of(1, 2), of(2, 3));
        x.grid(1, 3, 3);
        lay(0, 0, 9);
        lay(1, 2, 2);
        x.alike(1, 1, 100);
        x.perp(1, 1);
        long digest = x.digest();
        x.world(0, 46);
        x.line(0, 0);
        x.line(0, 1);
        x.line(1, 1);
        x.grid(1, 7, 7);
        x.form(0, 4);
        x.dual(0, 1);
        x.dual(5, 1);
        x.derive(1, 0, 0);
        x.derive(1, 9, 0);
        x.part(1, bits(0, 4), 0);
        x.part(1, 512, 0);
        x.row(0, 13);
        x.row(0, -1);
        x.lay(0, 2, 5);
        x.copy(0, 0, 1, 1, 2);
        x.ovoid(1, 2);
        x.spread(1, 2);
        x.alike(1, 1, 2);
        is("digest()", digest, x.digest());
        is("asked()", bits(0, 1, 2, 3, 6), x.asked());
        is("sent(8)", 8, x.sent(8));
        is("perp(0, 2)", 3, x.perp(0, 2));
    }
}
