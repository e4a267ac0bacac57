import java.util.ArrayList;
import java.util.List;

/** The edges that promises 1 to 15 name: WORLDS, how they are told and made, and what is told of them. */
public final class EdgeWorldsTest extends Edges {
    private static final int[][] RING = {{0, 1}, {1, 2}, {2, 3}, {3, 0}};
    private static final int[][] PLANE = {{0, 1, 2}, {0, 3, 4}, {0, 5, 6}, {1, 3, 5}, {1, 4, 6}, {2, 3, 6}, {2, 4, 5}};

    public static void main(String[] args) {
        newObject1();
        world2();
        lineNumbers3();
        linePoints3();
        lineSize3();
        lineOrder3();
        grid4();
        gridPlaces4();
        form5();
        formPlaces5(2);
        formPlaces5(3);
        dualState6();
        dualPlaces6();
        derivePoints7();
        deriveOrders7();
        deriveRight7();
        derivePlaces7();
        partBits8();
        partState8();
        partPlaces8();
        drop9();
        told10();
        mark11();
        points12();
        lines13();
        faultPairs14();
        faultMeetings14();
        mean15();
        Due.end("EdgeWorldsTest");
    }

    private static Look toldIs(int w, int p, int l, int kind) {
        return look("P, L, KIND of " + w, x -> 10000 * x.told(w, 0) + 100 * x.told(w, 1) + x.told(w, 2), 10000 * kind + 100 * p + l);
    }

    private static Look askedIs(long set) {
        return look("asked()", x -> x.asked(), set);
    }

    private static Look missing(int w) {
        return look("drop(" + w + ")", x -> x.drop(w), FINDING);
    }

    /** 1: "No WORLDS, no ROWS." */
    private static void newObject1() {
        for (int w = 0; w < 6; w++) {
            int at = w;
            finds("1 drop(" + w + ") of a new object", Edges::none, x -> x.drop(at), NOTHING);
        }
        for (int r = 0; r < 4; r++) {
            int at = r;
            finds("1 tear(" + r + ") of a new object", Edges::none, x -> x.tear(at), NOTHING);
        }
        Setting other = x -> house(new QuadWorlds());
        finds("1 told(0, 0) beside another object", other, x -> x.told(0, 0), NOTHING);
        takes("1 sent(0) beside another object", other, x -> x.sent(0), NONE);
        takes("1 tries() beside another object", other, x -> x.tries(), 0);
        takes("1 asked() beside another object", other, x -> x.asked(), 0);
    }

    /** 2: "A WORLD of KIND 0 with P POINTS (2 .. 45), no LINES: P. BAD." */
    private static void world2() {
        Setting house = Edges::house;
        for (int p : of(1, 0, -1, 46, 47, LEAST, MOST)) {
            refuses("2 world(0, " + p + ")", house, x -> x.world(0, p), BAD);
            refuses("2 world(4, " + p + ") of a missing one", house, x -> x.world(4, p), BAD);
        }
        takes("2 world(4, 2)", house, x -> x.world(4, 2), 2, toldIs(4, 2, 0, 0),
            look("lines(4, 1)", x -> x.lines(4, 1), 0), look("lines(4, 2)", x -> x.lines(4, 2), FINDING));
        takes("2 world(4, 3)", house, x -> x.world(4, 3), 3, toldIs(4, 3, 0, 0));
        takes("2 world(4, 44)", house, x -> x.world(4, 44), 44, toldIs(4, 44, 0, 0));
        takes("2 world(4, 45)", house, x -> x.world(4, 45), 45, toldIs(4, 45, 0, 0),
            look("lines(4, 44)", x -> x.lines(4, 44), 0), look("lines(4, 45)", x -> x.lines(4, 45), FINDING));
        takes("2 world(2, 15) over a FORM: no LINES", house, x -> x.world(2, 15), 15, toldIs(2, 15, 0, 0),
            look("lines(2, 0)", x -> x.lines(2, 0), 0), look("perp(2, 1)", x -> x.perp(2, 1), 1),
            look("points(2, 0)", x -> x.points(2, 0), FINDING), look("line(2, 0)", x -> x.line(2, 0), 0));
    }

    /** 3: "A LINE more of a WORLD of KIND 0: ... its number. FULL" (45 at most) */
    private static void lineNumbers3() {
        Setting house = Edges::house;
        takes("3 line(0, 0): the fourth one", house, x -> x.line(0, 0), 3, toldIs(0, 6, 4, 0), lineIs(0, 3, 0, 2), lineIs(0, 2, 3, 4));
        takes("3 line(5, 0): the first one", house, x -> x.line(5, 0), 0, toldIs(5, 3, 1, 0), lineIs(5, 0, 0, 2));
        Setting but1 = x -> {
            house(x);
            tellAlike(x, 0, 6, 44);
        };
        takes("3 line() with 44 LINES there", but1, x -> x.line(0, 0), 44, toldIs(0, 6, 45, 0), lineIs(0, 44, 0, 2),
            look("line(0, 0)", x -> x.line(0, 0), FULL));
        Setting full = x -> {
            house(x);
            tellAlike(x, 0, 6, 45);
        };
        refuses("3 line() with 45 LINES there", full, x -> x.line(0, 0), FULL);
        takes("3 line() of another WORLD beside a full one", full, x -> x.line(5, 0), 0, toldIs(5, 3, 1, 0));
        takes("3 line() behind world() over a full one", x -> {
            full.on(x);
            x.world(0, 3);
        }, x -> x.line(0, 0), 0, toldIs(0, 3, 1, 0));
    }

    /** 3: "BEYOND: a POINT that there is not"; "(each once counts)". */
    private static void linePoints3() {
        int[][] beyond = {{5, 6}, {6, 5}, {-1, 0}, {0, -1}, {0, 63}, {0, 64}, {0, 65}, {LEAST, 0}, {0, MOST}, {6}, {7, 7}, {6, 1, 2},
            {0, 1, 2, 3, 4, 5, 0, 1, 2, 3, 4, 6}};
        for (int[] points : beyond) {
            finds("3 line() of " + List.of(points[0], points[points.length - 1]), x -> withRow(x, points), x -> x.line(0, 0), BEYOND);
        }
        takes("3 line() of 0 and 5 of 6", x -> withRow(x, 5, 0), x -> x.line(0, 0), 3, lineIs(0, 3, 0, 5));
        takes("3 line() of some more than once", x -> withRow(x, 4, 2, 4, 2, 2), x -> x.line(0, 0), 3, lineIs(0, 3, 2, 4));
        takes("3 line() of twelve places", x -> withRow(x, 5, 4, 3, 2, 1, 0, 5, 4, 3, 2, 1, 0), x -> x.line(0, 0), 3,
            lineIs(0, 3, 0, 1, 2, 3, 4, 5));
        Setting large = x -> {
            x.world(0, 45);
            row(x, 0, 44, 0);
            row(x, 1, 45, 0);
            row(x, 2, 33, 34, 35, 36, 37, 38, 39, 40, 41, 42, 43, 44);
        };
        takes("3 line() of POINT 44 of 45", large, x -> x.line(0, 0), 0, lineIs(0, 0, 0, 44));
        finds("3 line() of POINT 45 of 45", large, x -> x.line(0, 1), BEYOND);
        takes("3 line() of the last twelve of 45", large, x -> x.line(0, 2), 0,
            lineIs(0, 0, 33, 34, 35, 36, 37, 38, 39, 40, 41, 42, 43, 44));
    }

    private static void withRow(QuadWorlds x, int... places) {
        house(x);
        row(x, 0, places);
    }

    /** 3: "SIZE: fewer than two." */
    private static void lineSize3() {
        finds("3 line() of none", x -> withRow(x), x -> x.line(0, 0), SIZE);
        finds("3 line() of one", x -> withRow(x, 5), x -> x.line(0, 0), SIZE);
        finds("3 line() of one twice", x -> withRow(x, 5, 5), x -> x.line(0, 0), SIZE);
        finds("3 line() of one twelve times", x -> withRow(x, 0, 0, 0, 0, 0, 0, 0, 0, 0, 0, 0, 0), x -> x.line(0, 0), SIZE);
        takes("3 line() of two", x -> withRow(x, 5, 4), x -> x.line(0, 0), 3, lineIs(0, 3, 4, 5));
        takes("3 line() of three", x -> withRow(x, 5, 4, 3), x -> x.line(0, 0), 3, lineIs(0, 3, 3, 4, 5));
    }

    /** 3: "BAD; FULL; NOTHING: either; UNLIKE; BEYOND; SIZE. (In this order.)" */
    private static void lineOrder3() {
        Setting full = x -> {
            house(x);
            tellAlike(x, 0, 6, 45);
            row(x, 2, 6);
        };
        refuses("3 line: BAD of the row ahead of FULL", full, x -> x.line(0, 4), BAD);
        refuses("3 line: FULL ahead of NOTHING", full, x -> x.line(0, 3), FULL);
        refuses("3 line: FULL ahead of BEYOND", full, x -> x.line(0, 2), FULL);
        refuses("3 line: FULL ahead of SIZE", full, x -> x.line(0, 1), FULL);
        Setting made = x -> {
            house(x);
            x.form(2, 3);
            x.derive(2, 0, 2);
        };
        refuses("3 line: FULL ahead of UNLIKE", made, x -> x.line(2, 0), FULL);
        Setting house = x -> {
            house(x);
            row(x, 2, 45, 45);
        };
        refuses("3 line: BAD of the row ahead of NOTHING", house, x -> x.line(4, 4), BAD);
        refuses("3 line: BAD of the world ahead of NOTHING", house, x -> x.line(6, 3), BAD);
        refuses("3 line: BAD of the row ahead of UNLIKE", house, x -> x.line(1, -1), BAD);
        finds("3 line: NOTHING ahead of UNLIKE", house, x -> x.line(1, 3), NOTHING);
        finds("3 line: NOTHING ahead of BEYOND", house, x -> x.line(4, 2), NOTHING);
        finds("3 line: NOTHING ahead of SIZE", house, x -> x.line(4, 1), NOTHING);
        for (int w = 1; w < 4; w++) {
            int at = w;
            finds("3 line: UNLIKE of KIND " + w, house, x -> x.line(at, 0), UNLIKE);
            finds("3 line: UNLIKE of KIND " + w + " ahead of BEYOND", house, x -> x.line(at, 2), UNLIKE);
            finds("3 line: UNLIKE of KIND " + w + " ahead of SIZE", house, x -> x.line(at, 1), UNLIKE);
        }
        finds("3 line: BEYOND ahead of SIZE", house, x -> x.line(0, 2), BEYOND);
    }

    /** 4: "A GRID: how many POINTS. BAD." (2 .. 6 each) */
    private static void grid4() {
        Setting house = Edges::house;
        for (int n : of(1, 0, -1, -2, 7, 8, LEAST, MOST)) {
            refuses("4 grid(0, " + n + ", 2)", house, x -> x.grid(0, n, 2), BAD);
            refuses("4 grid(0, 2, " + n + ")", house, x -> x.grid(0, 2, n), BAD);
            refuses("4 grid(0, " + n + ", 6)", house, x -> x.grid(0, n, 6), BAD);
            refuses("4 grid(4, 6, " + n + ")", house, x -> x.grid(4, 6, n), BAD);
        }
        for (int a = 2; a <= 6; a++) {
            for (int b = 2; b <= 6; b++) {
                int r = a;
                int c = b;
                takes("4 grid(0, " + a + ", " + b + ")", house, x -> x.grid(0, r, c), a * b, toldIs(0, a * b, a + b, 1),
                    look("mark(0, 1)", x -> x.mark(0, 1), a), look("fault(0)", x -> x.fault(0), 0));
            }
        }
    }

    /** 4: "POINT b i + j (i below a, j below b); LINES: for each i all with it, then for each j all with it." */
    private static void gridPlaces4() {
        takes("4 grid(0, 2, 2)", Edges::none, x -> x.grid(0, 2, 2), 4, lineIs(0, 0, 0, 1), lineIs(0, 1, 2, 3),
            lineIs(0, 2, 0, 2), lineIs(0, 3, 1, 3), look("points(0, 4)", x -> x.points(0, 4), FINDING));
        takes("4 grid(0, 2, 6)", Edges::none, x -> x.grid(0, 2, 6), 12, lineIs(0, 0, 0, 1, 2, 3, 4, 5), lineIs(0, 1, 6, 7, 8, 9, 10, 11),
            lineIs(0, 2, 0, 6), lineIs(0, 7, 5, 11), look("points(0, 8)", x -> x.points(0, 8), FINDING));
        takes("4 grid(0, 6, 2)", Edges::none, x -> x.grid(0, 6, 2), 12, lineIs(0, 0, 0, 1), lineIs(0, 5, 10, 11),
            lineIs(0, 6, 0, 2, 4, 6, 8, 10), lineIs(0, 7, 1, 3, 5, 7, 9, 11), look("points(0, 8)", x -> x.points(0, 8), FINDING));
        takes("4 grid(0, 6, 6)", Edges::none, x -> x.grid(0, 6, 6), 36, lineIs(0, 0, 0, 1, 2, 3, 4, 5), lineIs(0, 5, 30, 31, 32, 33, 34, 35),
            lineIs(0, 6, 0, 6, 12, 18, 24, 30), lineIs(0, 11, 5, 11, 17, 23, 29, 35), look("points(0, 12)", x -> x.points(0, 12), FINDING));
    }

    /** 5: "A FORM of q: how many POINTS. BAD." (2 or 3) */
    private static void form5() {
        Setting house = Edges::house;
        for (int q : of(1, 0, -1, -2, -3, 4, 5, LEAST, MOST)) {
            refuses("5 form(0, " + q + ")", house, x -> x.form(0, q), BAD);
            refuses("5 form(4, " + q + ")", house, x -> x.form(4, q), BAD);
        }
        takes("5 form(0, 2)", house, x -> x.form(0, 2), 15, toldIs(0, 15, 15, 2), look("mark(0, 2)", x -> x.mark(0, 2), 2));
        takes("5 form(4, 3)", house, x -> x.form(4, 3), 40, toldIs(4, 40, 40, 2), look("mark(4, 2)", x -> x.mark(4, 2), 3));
        takes("5 form(2, 3) over a FORM of 2", house, x -> x.form(2, 3), 40, toldIs(2, 40, 40, 2));
        takes("5 form(2, 2) over a FORM of 3", x -> x.form(2, 3), x -> x.form(2, 2), 15, toldIs(2, 15, 15, 2));
    }

    private static boolean areNear(int[] a, int[] b, int q) {
        return Math.floorMod(a[0] * b[1] - a[1] * b[0] + a[2] * b[3] - a[3] * b[2], q) == 0;
    }

    private static List<int[]> formPoints(int q) {
        List<int[]> points = new ArrayList<>();
        for (int n = 0; n < q * q * q * q; n++) {
            int[] row = {n / (q * q * q), n / (q * q) % q, n / q % q, n % q};
            int first = 0;
            for (int v : row) {
                first = first == 0 ? v : first;
            }
            if (first == 1) {
                points.add(row);
            }
        }
        return points;
    }

    /** 5: the POINTS "in order (x counts most)", the LINES "in the order of their sets", each by the words, with all triples or fours. */
    private static void formPlaces5(int q) {
        List<int[]> points = formPoints(q);
        List<Long> lines = new ArrayList<>();
        addLines(lines, points, q, new ArrayList<>());
        QuadWorlds x = new QuadWorlds();
        Due.is("5 form(0, " + q + ")", points.size(), x.form(0, q));
        Due.is("5 LINES of it", lines.size(), x.told(0, 2));
        for (int i = 0; i < lines.size(); i++) {
            Due.is("5 POINTS of LINE " + i, q + 1, x.points(0, i));
            Due.is("5 the set of LINE " + i, lines.get(i), x.asked());
        }
        for (int a = 0; a < points.size(); a++) {
            long near = 0;
            for (int b = 0; b < points.size(); b++) {
                near |= areNear(points.get(a), points.get(b), q) ? 1L << b : 0;
            }
            x.perp(0, 1L << a);
            Due.is("5 NEAR to POINT " + a + " of a FORM of " + q, near, x.asked());
        }
    }

    private static void addLines(List<Long> lines, List<int[]> points, int q, List<Integer> begun) {
        if (begun.size() == q + 1) {
            long set = 0;
            for (int p : begun) {
                set |= 1L << p;
            }
            lines.add(set);
            return;
        }
        for (int n = begun.isEmpty() ? 0 : begun.get(begun.size() - 1) + 1; n < points.size(); n++) {
            boolean fits = true;
            for (int m : begun) {
                fits &= areNear(points.get(m), points.get(n), q);
            }
            if (fits) {
                begun.add(n);
                addLines(lines, points, q, begun);
                begun.remove(begun.size() - 1);
            }
        }
    }

    /** 6: "STATE: a POINT is on fewer than two LINES." "(STATE behind NOTHING.)" */
    private static void dualState6() {
        Setting house = Edges::house;
        finds("6 dual(4, 0)", house, x -> x.dual(4, 0), NOTHING);
        finds("6 dual(4, 4)", house, x -> x.dual(4, 4), NOTHING);
        refuses("6 dual(5, 4): no LINES", house, x -> x.dual(5, 4), STATE);
        refuses("6 dual(5, 5): no LINES, its own place", house, x -> x.dual(5, 5), STATE);
        refuses("6 dual(0, 1): some on one LINE, one on none", house, x -> x.dual(0, 1), STATE);
        refuses("6 dual: the last POINT on no LINE", x -> tell(x, 0, 5, RING), x -> x.dual(0, 1), STATE);
        refuses("6 dual: the first POINT on no LINE", x -> tell(x, 0, 3, of(1, 2), of(1, 2)), x -> x.dual(0, 1), STATE);
        refuses("6 dual: the last POINT on one LINE", x -> tell(x, 0, 3, of(0, 1), of(0, 1, 2)), x -> x.dual(0, 1), STATE);
        refuses("6 dual: the first POINT on one LINE", x -> tell(x, 0, 3, of(1, 2), of(0, 1, 2)), x -> x.dual(0, 1), STATE);
        takes("6 dual: all on two LINES", x -> tell(x, 0, 4, RING), x -> x.dual(0, 1), 4, toldIs(1, 4, 4, 3),
            lineIs(1, 0, 0, 3), lineIs(1, 1, 0, 1), lineIs(1, 2, 1, 2), lineIs(1, 3, 2, 3));
        takes("6 dual: the last POINT on two LINES", x -> tell(x, 0, 3, of(0, 1), of(0, 1, 2), of(2, 0)), x -> x.dual(0, 1), 3,
            lineIs(1, 0, 0, 1, 2), lineIs(1, 1, 0, 1), lineIs(1, 2, 1, 2));
    }

    /** 6: "TURNED into another place (perhaps its own), as a MADE one: how many POINTS." "POINT i is LINE i". */
    private static void dualPlaces6() {
        Setting house = Edges::house;
        Look[] turned = {toldIs(3, 6, 5, 3), lineIs(3, 0, 0, 1, 2), lineIs(3, 1, 3, 4, 5), lineIs(3, 2, 0, 3), lineIs(3, 4, 2, 5)};
        takes("6 dual(3, 3): its own place", house, x -> x.dual(3, 3), 6, turned);
        takes("6 dual(1, 4): a missing place", house, x -> x.dual(1, 4), 7, toldIs(4, 7, 12, 3), toldIs(1, 12, 7, 1),
            lineIs(4, 0, 0, 3), lineIs(4, 11, 2, 6));
        takes("6 dual(1, 2): over another one", house, x -> x.dual(1, 2), 7, toldIs(2, 7, 12, 3), toldIs(1, 12, 7, 1));
        takes("6 dual(1, 0), then a change of the new one's neighbour", house, x -> x.dual(1, 0), 7,
            look("grid(1, 2, 2)", x -> x.grid(1, 2, 2), 4), toldIs(0, 7, 12, 3), lineIs(0, 11, 2, 6));
        takes("6 dual() of 45 LINES", x -> tellAlike(x, 0, 2, 45), x -> x.dual(0, 0), 45, toldIs(0, 45, 2, 3),
            look("points(0, 1)", x -> x.points(0, 1), 45), askedIs((1L << 45) - 1), look("lines(0, 44)", x -> x.lines(0, 44), 2));
        Setting much = x -> {
            tellAlike(x, 0, 2, 45);
            x.dual(0, 0);
        };
        takes("6 dual() of 45 POINTS", much, x -> x.dual(0, 1), 2, toldIs(1, 2, 45, 3), lineIs(1, 0, 0, 1), lineIs(1, 44, 0, 1));
    }

    /** 7: "BEYOND: no such POINT. (NOTHING, BEYOND ahead of STATE, that ahead of FULL.)" */
    private static void derivePoints7() {
        Setting house = Edges::house;
        finds("7 derive(4, 0, 1)", house, x -> x.derive(4, 0, 1), NOTHING);
        finds("7 derive(4, 99, 1): NOTHING ahead of BEYOND", house, x -> x.derive(4, 99, 1), NOTHING);
        for (int p : of(-1, 15, 16, 45, 64, LEAST, MOST)) {
            finds("7 derive(2, " + p + ", 4)", house, x -> x.derive(2, p, 4), BEYOND);
        }
        takes("7 derive(2, 0, 4)", house, x -> x.derive(2, 0, 4), 8, toldIs(4, 8, 16, 3));
        takes("7 derive(2, 14, 4)", house, x -> x.derive(2, 14, 4), 8, toldIs(4, 8, 16, 3));
        finds("7 derive(0, 6, 4): BEYOND ahead of STATE", house, x -> x.derive(0, 6, 4), BEYOND);
        refuses("7 derive(0, 5, 4)", house, x -> x.derive(0, 5, 4), STATE);
        finds("7 derive(5, 3, 4): BEYOND ahead of STATE, no LINES", house, x -> x.derive(5, 3, 4), BEYOND);
        refuses("7 derive(5, 2, 4): no LINES", house, x -> x.derive(5, 2, 4), STATE);
    }

    /** 7: "STATE: ... s and t not alike or below 2" */
    private static void deriveOrders7() {
        Setting place = x -> x.grid(1, 2, 3);
        refuses("7 derive: s and t 1", x -> {
            place.on(x);
            x.grid(0, 2, 2);
        }, x -> x.derive(0, 0, 1), STATE);
        refuses("7 derive: s 2, t 1", x -> {
            place.on(x);
            x.grid(0, 3, 3);
        }, x -> x.derive(0, 0, 1), STATE);
        refuses("7 derive: s 1, t 2", x -> {
            place.on(x);
            x.grid(0, 3, 3);
            x.dual(0, 0);
        }, x -> x.derive(0, 0, 1), STATE);
        refuses("7 derive: s 2, t 4", x -> {
            x.form(0, 3);
            x.derive(0, 0, 0);
        }, x -> x.derive(0, 0, 1), STATE);
        refuses("7 derive: no s", x -> x.grid(0, 3, 4), x -> x.derive(0, 0, 1), STATE);
        refuses("7 derive: neither s nor t", Edges::house, x -> x.derive(0, 0, 1), STATE);
        refuses("7 derive: s 5, t 0", x -> tell(x, 0, 6, of(0, 1, 2, 3, 4, 5)), x -> x.derive(0, 0, 1), STATE);
        takes("7 derive: s and t 2", x -> x.form(0, 2), x -> x.derive(0, 0, 1), 8, toldIs(1, 8, 16, 3));
        // 45 LINES are the most: FULL can't be had, as s and t of 4 or more ask for 85 POINTS
        takes("7 derive: s and t 3, not FULL with 45", x -> x.form(0, 3), x -> x.derive(0, 0, 1), 27, toldIs(1, 27, 45, 3));
    }

    /** 7: "STATE: not RIGHT, ... or the POINT is not REGULAR" */
    private static void deriveRight7() {
        refuses("7 derive: not RIGHT by 3, s and t 2", x -> tell(x, 0, 7, PLANE), x -> x.derive(0, 0, 1), STATE);
        refuses("7 derive: not RIGHT by 1, s and t 2", x -> tell(x, 0, 3, of(0, 1, 2), of(0, 1, 2), of(0, 1, 2)), x -> x.derive(0, 0, 1), STATE);
        Setting apart = x -> tell(x, 0, 9, of(0, 1, 2), of(0, 1, 2), of(0, 1, 2), of(3, 4, 5), of(3, 6, 7), of(3, 8, 4),
            of(5, 6, 8), of(4, 7, 6), of(5, 7, 8));
        refuses("7 derive: not RIGHT, s and t 2, parts apart", apart, x -> x.derive(0, 3, 1), STATE);
        Setting turned = x -> {
            x.form(0, 3);
            x.dual(0, 0);
        };
        takes("7 the turned FORM of 3 is RIGHT", turned, x -> x.fault(0), 0, look("s", x -> x.told(0, 3), 3), look("t", x -> x.told(0, 4), 3),
            look("regular(0, 0)", x -> x.regular(0, 0), 0), look("regular(0, 39)", x -> x.regular(0, 39), 0));
        refuses("7 derive: not REGULAR", turned, x -> x.derive(0, 0, 1), STATE);
        refuses("7 derive: not REGULAR, the last POINT, its own place", turned, x -> x.derive(0, 39, 0), STATE);
        Setting twice = x -> {
            turned.on(x);
            x.dual(0, 0);
        };
        takes("7 derive: turned twice", twice, x -> x.derive(0, 39, 0), 27, toldIs(0, 27, 45, 3));
    }

    private static long among(long kept, long set) {
        long answer = 0;
        int number = 0;
        for (int p = 0; p < 64; p++) {
            if ((kept >>> p & 1) != 0) {
                answer |= (set >>> p & 1) << number;
                number++;
            }
        }
        return answer;
    }

    /** 7: MADE: "its POINTS: all not NEAR x, in their order; its LINES: first ..., then ...", about each POINT of both FORMS. */
    private static void derivePlaces7() {
        for (int q = 2; q <= 3; q++) {
            int size = q == 2 ? 15 : 40;
            for (int p = 0; p < size; p++) {
                QuadWorlds x = new QuadWorlds();
                x.form(5, q);
                List<Long> due = dueOfDerive(x, p, size);
                String name = "7 derive(5, " + p + ", 0) of a FORM of " + q;
                Due.is(name, q * q * q, x.derive(5, p, 0));
                Due.is(name + ": L", due.size(), x.told(0, 2));
                for (int i = 0; i < due.size(); i++) {
                    x.points(0, i);
                    Due.is(name + ": LINE " + i, due.get(i), x.asked());
                }
                Due.is(name + ": the FORM stays", 2, x.told(5, 0));
            }
        }
    }

    private static List<Long> dueOfDerive(QuadWorlds x, int p, int size) {
        x.perp(5, 1L << p);
        long kept = (1L << size) - 1 & ~x.asked();
        List<Long> due = new ArrayList<>();
        for (int i = 0; i < size; i++) {
            x.points(5, i);
            if ((x.asked() >>> p & 1) == 0) {
                due.add(among(kept, x.asked()));
            }
        }
        for (int y = 0; y < size; y++) {
            if ((kept >>> y & 1) != 0) {
                x.span(5, p, y);
                long span = among(kept, x.asked());
                if (!due.contains(span)) {
                    due.add(span);
                }
            }
        }
        return due;
    }

    /** 8: "BAD: also bits beyond P; ... NOTHING. (NOTHING ahead.)" */
    private static void partBits8() {
        Setting house = Edges::house;
        finds("8 part(4, 0, 1)", house, x -> x.part(4, 0, 1), NOTHING);
        finds("8 part(4, 3, 1)", house, x -> x.part(4, 3, 1), NOTHING);
        finds("8 part(4, -1, 1): NOTHING ahead of bits", house, x -> x.part(4, -1, 1), NOTHING);
        takes("8 part() with bit P - 1", house, x -> x.part(1, bits(8, 11), 4), 2, toldIs(4, 2, 1, 3), lineIs(4, 0, 0, 1));
        for (int bit : of(12, 13, 31, 32, 44, 45, 62, 63)) {
            refuses("8 part() with bit " + bit + " of 12", house, x -> x.part(1, bits(8, 11, bit), 4), BAD);
        }
        refuses("8 part() of all bits", house, x -> x.part(1, -1, 4), BAD);
        Setting large = x -> {
            x.world(0, 45);
            row(x, 0, 43, 44);
            x.line(0, 0);
        };
        takes("8 part() with bit 44 of 45", large, x -> x.part(0, bits(0, 43, 44), 1), 3, toldIs(1, 3, 1, 3), lineIs(1, 0, 1, 2));
        takes("8 part() of all 45", large, x -> x.part(0, (1L << 45) - 1, 1), 45, toldIs(1, 45, 1, 3), lineIs(1, 0, 43, 44));
        refuses("8 part() with bit 45 of 45", large, x -> x.part(0, bits(43, 44, 45), 1), BAD);
        refuses("8 part() with bit 63 of 45", large, x -> x.part(0, bits(43, 44, 63), 1), BAD);
    }

    /** 8: "its LINES: those that have two of them or more" "(STATE: no LINES)" */
    private static void partState8() {
        Setting house = Edges::house;
        refuses("8 part() of none", house, x -> x.part(1, 0, 4), STATE);
        refuses("8 part() of one", house, x -> x.part(1, bits(11), 4), STATE);
        refuses("8 part() of two on no LINE", house, x -> x.part(1, bits(0, 5), 4), STATE);
        refuses("8 part() of three on no LINE, its own place", house, x -> x.part(1, bits(0, 5, 10), 1), STATE);
        refuses("8 part() of a WORLD without LINES", house, x -> x.part(5, 7, 4), STATE);
        refuses("8 part() of a WORLD without LINES, of none", house, x -> x.part(5, 0, 4), STATE);
        takes("8 part() of two on a LINE", house, x -> x.part(1, bits(0, 1), 4), 2, toldIs(4, 2, 1, 3), lineIs(4, 0, 0, 1));
        takes("8 part() of two on the last LINE", house, x -> x.part(1, bits(3, 11), 4), 2, toldIs(4, 2, 1, 3), lineIs(4, 0, 0, 1));
    }

    /** 8: "told as a WORLD (MADE), POINTS and LINES in their order", "(without the others)" */
    private static void partPlaces8() {
        Setting house = Edges::house;
        takes("8 part() in order", house, x -> x.part(1, bits(1, 3, 5, 7, 8), 4), 5, toldIs(4, 5, 4, 3), toldIs(1, 12, 7, 1),
            lineIs(4, 0, 0, 1), lineIs(4, 1, 2, 3), lineIs(4, 2, 0, 2), lineIs(4, 3, 1, 3));
        takes("8 part(), its own place", house, x -> x.part(1, bits(0, 1, 2, 6), 1), 4, toldIs(1, 4, 2, 3),
            lineIs(1, 0, 0, 1, 2), lineIs(1, 1, 2, 3));
        takes("8 part() of all", house, x -> x.part(0, 63, 2), 6, toldIs(2, 6, 3, 3), toldIs(0, 6, 3, 0), lineIs(2, 1, 1, 2, 3));
        takes("8 part() with a POINT on no LINE", house, x -> x.part(0, bits(0, 1, 5), 4), 3, toldIs(4, 3, 1, 3), lineIs(4, 0, 0, 1),
            look("lines(4, 2)", x -> x.lines(4, 2), 0));
        takes("8 part() with LINES that become alike", x -> tell(x, 0, 4, of(0, 1, 2), of(0, 1, 3)), x -> x.part(0, 3, 0), 2,
            toldIs(0, 2, 2, 3), lineIs(0, 0, 0, 1), lineIs(0, 1, 0, 1));
        takes("8 part() of 45 LINES", x -> tellAlike(x, 0, 3, 45), x -> x.part(0, 3, 1), 2, toldIs(1, 2, 45, 3), lineIs(1, 44, 0, 1));
    }

    /** 9: "A WORLD is missing: 1. BAD; NOTHING." */
    private static void drop9() {
        Setting house = Edges::house;
        for (int w = 0; w < 6; w++) {
            int at = w;
            if (w == 4) {
                finds("9 drop(4)", house, x -> x.drop(4), NOTHING);
            } else {
                takes("9 drop(" + w + ")", house, x -> x.drop(at), 1, look("count(0)", x -> x.count(0), 4), missing(w),
                    look("finding()", x -> x.finding(), NOTHING), look("told()", x -> x.told(at, 1), FINDING));
            }
        }
        Setting dropped = x -> {
            house(x);
            x.drop(2);
        };
        finds("9 drop(2) once more", dropped, x -> x.drop(2), NOTHING);
        takes("9 grid(2, 2, 2) behind it", dropped, x -> x.grid(2, 2, 2), 4, toldIs(2, 4, 4, 1), look("lines(2, 0)", x -> x.lines(2, 0), 2));
        takes("9 drop() leaves what was told", dropped, x -> x.asked(), bits(6, 9, 12), look("sent(1)", x -> x.sent(1), 3));
    }

    /** 10: "0 its KIND, 1 P, 2 L, 3 s (NONE), 4 t (NONE). BAD; NOTHING." */
    private static void told10() {
        Setting house = Edges::house;
        for (int what : of(-1, 5, 6, LEAST, MOST)) {
            refuses("10 told(1, " + what + ")", house, x -> x.told(1, what), BAD);
            refuses("10 told(4, " + what + ")", house, x -> x.told(4, what), BAD);
        }
        int[][] due = {{0, 6, 3, NONE, NONE}, {1, 12, 7, NONE, 1}, {2, 15, 15, 2, 2}, {3, 5, 6, 1, NONE}, null, {0, 3, 0, NONE, NONE}};
        for (int w = 0; w < 6; w++) {
            for (int what = 0; what < 5; what++) {
                int at = w;
                int of = what;
                if (w == 4) {
                    finds("10 told(4, " + what + ")", house, x -> x.told(4, of), NOTHING);
                } else {
                    takes("10 told(" + w + ", " + what + ")", house, x -> x.told(at, of), due[w][what]);
                }
            }
        }
    }

    /** 11: "What a WORLD that IS of a KIND tells: ... BAD: also KIND 0; NOTHING; UNLIKE." */
    private static void mark11() {
        Setting house = Edges::house;
        for (int kind : of(0, -1, 4, 5, LEAST, MOST)) {
            refuses("11 mark(0, " + kind + ")", house, x -> x.mark(0, kind), BAD);
        }
        int[] due = {0, 3, 2, 3};
        for (int w = 0; w < 5; w++) {
            for (int kind = 1; kind < 4; kind++) {
                int at = w;
                int of = kind;
                if (w == 4) {
                    finds("11 mark(4, " + kind + ")", house, x -> x.mark(4, of), NOTHING);
                } else if (w == kind) {
                    takes("11 mark(" + w + ", " + kind + ")", house, x -> x.mark(at, of), due[w]);
                } else {
                    finds("11 mark(" + w + ", " + kind + ")", house, x -> x.mark(at, of), UNLIKE);
                }
            }
        }
        takes("11 mark() of the least GRID", x -> x.grid(0, 2, 6), x -> x.mark(0, 1), 2);
        takes("11 mark() of the greatest GRID", x -> x.grid(0, 6, 2), x -> x.mark(0, 1), 6);
        takes("11 mark() of a FORM of 3", x -> x.form(0, 3), x -> x.mark(0, 2), 3);
        takes("11 mark() of a MADE one, POINT 0 on no LINE", x -> {
            x.grid(0, 3, 3);
            x.part(0, bits(0, 4, 5), 0);
        }, x -> x.mark(0, 3), 0);
        takes("11 mark() of a MADE one, POINT 0 on 45 LINES", x -> {
            tellAlike(x, 0, 3, 45);
            x.part(0, 3, 0);
        }, x -> x.mark(0, 3), 45);
        finds("11 mark() of a GRID turned", x -> {
            x.grid(0, 2, 2);
            x.dual(0, 0);
        }, x -> x.mark(0, 1), UNLIKE);
    }

    /** 12: "The set of a LINE, told by asked(): how many POINTS. BAD; NOTHING; BEYOND." */
    private static void points12() {
        Setting house = Edges::house;
        for (int line : of(-1, 7, 8, 12, 45, 64, LEAST, MOST)) {
            finds("12 points(1, " + line + ")", house, x -> x.points(1, line), BEYOND);
        }
        takes("12 points(1, 0)", house, x -> x.points(1, 0), 4, askedIs(15));
        takes("12 points(1, 6)", house, x -> x.points(1, 6), 3, askedIs(bits(3, 7, 11)));
        finds("12 points(5, 0) without LINES", house, x -> x.points(5, 0), BEYOND);
        finds("12 points(4, 0)", house, x -> x.points(4, 0), NOTHING);
        Setting full = x -> tellAlike(x, 0, 2, 45);
        takes("12 points(0, 44) of 45", full, x -> x.points(0, 44), 2, askedIs(3));
        finds("12 points(0, 45) of 45", full, x -> x.points(0, 45), BEYOND);
    }

    /** 13: "The set of LINES through a POINT, told by asked(): how many. BAD; NOTHING; BEYOND." */
    private static void lines13() {
        Setting house = Edges::house;
        for (int p : of(-1, 12, 13, 45, 64, LEAST, MOST)) {
            finds("13 lines(1, " + p + ")", house, x -> x.lines(1, p), BEYOND);
        }
        takes("13 lines(1, 0)", house, x -> x.lines(1, 0), 2, askedIs(bits(0, 3)));
        takes("13 lines(1, 11)", house, x -> x.lines(1, 11), 2, askedIs(bits(2, 6)));
        takes("13 lines(0, 5) on none", house, x -> x.lines(0, 5), 0, askedIs(0));
        takes("13 lines(5, 2) without LINES", house, x -> x.lines(5, 2), 0, askedIs(0));
        finds("13 lines(4, 0)", house, x -> x.lines(4, 0), NOTHING);
        Setting full = x -> tellAlike(x, 0, 45, 45);
        takes("13 lines(0, 1) on 45", full, x -> x.lines(0, 1), 45, askedIs((1L << 45) - 1));
        takes("13 lines(0, 44) of 45", full, x -> x.lines(0, 44), 0, askedIs(0));
        finds("13 lines(0, 45) of 45", full, x -> x.lines(0, 45), BEYOND);
    }

    /** 14: "1 two LINES have two POINTS together (or are alike)"; "1 for all ahead of 2 and 3"; "100 times the first LINE and the other LINE". */
    private static void faultPairs14() {
        Setting house = Edges::house;
        finds("14 fault(4)", house, x -> x.fault(4), NOTHING);
        takes("14 fault(5) without LINES", house, x -> x.fault(5), 0, askedIs(bits(6, 9, 12)));
        takes("14 fault(2) of a RIGHT one", house, x -> x.fault(2), 0, askedIs(bits(6, 9, 12)));
        takes("14 fault() of the last two LINES", x -> tell(x, 0, 6, of(0, 1), of(2, 3), of(4, 5, 0), of(5, 4, 1)), x -> x.fault(0), 1, askedIs(203));
        takes("14 fault(): the first pair by its first LINE", x -> tell(x, 0, 5, of(0, 1, 2), of(3, 4), of(3, 4), of(2, 1)), x -> x.fault(0), 1, askedIs(3));
        takes("14 fault(): the first pair by its other LINE", x -> tell(x, 0, 5, of(0, 1, 2), of(3, 4), of(2, 1), of(0, 1), of(3, 4)), x -> x.fault(0), 1, askedIs(2));
        takes("14 fault(): 1 behind a place of 2", x -> tell(x, 0, 6, of(0, 1), of(2, 3), of(4, 5), of(4, 5)), x -> x.fault(0), 1, askedIs(203));
        takes("14 fault(): 1 behind a place of 3", x -> tell(x, 0, 5, of(0, 1), of(1, 2), of(2, 0), of(3, 4), of(4, 3)), x -> x.fault(0), 1, askedIs(304));
        Setting late = x -> {
            tell(x, 0, 45, of(0, 1));
            for (int i = 1; i < 44; i++) {
                row(x, 3, i, i + 1);
                x.line(0, 3);
            }
            x.line(0, 3);
        };
        takes("14 fault() of LINES 43 and 44", late, x -> x.fault(0), 1, askedIs(4344));
    }

    /** 14: "2 a LINE and a POINT off it with none that meets, 3 with two or more. ... by LINES, then by LINES or POINTS" */
    private static void faultMeetings14() {
        takes("14 fault(): none meets", x -> tell(x, 0, 4, of(0, 1), of(2, 3)), x -> x.fault(0), 2, askedIs(2));
        takes("14 fault(): one meets", x -> tell(x, 0, 4, RING), x -> x.fault(0), 0);
        takes("14 fault(): two meet", x -> tell(x, 0, 3, of(0, 1), of(1, 2), of(2, 0)), x -> x.fault(0), 3, askedIs(2));
        takes("14 fault(): three meet", x -> tell(x, 0, 4, of(0, 1, 2), of(0, 3), of(1, 3), of(2, 3)), x -> x.fault(0), 3, askedIs(3));
        takes("14 fault(): 2 ahead of 3 on a LINE", x -> tell(x, 0, 4, of(1, 2), of(2, 3), of(3, 1)), x -> x.fault(0), 2, askedIs(0));
        takes("14 fault(): 3 ahead of 2 on a LINE", x -> tell(x, 0, 4, of(0, 1), of(1, 2), of(2, 0)), x -> x.fault(0), 3, askedIs(2));
        takes("14 fault(): on LINE 1 first", x -> tell(x, 0, 5, of(0, 1), of(1, 2), of(2, 3), of(3, 0), of(0, 4)), x -> x.fault(0), 2, askedIs(104));
        takes("14 fault(): one LINE of all", x -> tell(x, 0, 3, of(0, 1, 2)), x -> x.fault(0), 0);
        takes("14 fault(): one LINE, the last POINT off it", x -> tell(x, 0, 45, of(0, 1)), x -> x.fault(0), 2, askedIs(2));
        takes("14 fault(): 2 at the last LINE's place", Edges::house, x -> x.fault(0), 2, askedIs(4));
    }

    /** 15: "The mean number of POINTS of a WORLD's LINES, cut. BAD; NOTHING; NOUGHT: no LINES." */
    private static void mean15() {
        Setting house = Edges::house;
        finds("15 mean(4)", house, x -> x.mean(4), NOTHING);
        finds("15 mean(5) without LINES", house, x -> x.mean(5), NOUGHT);
        takes("15 mean() of one LINE", x -> tell(x, 0, 9, of(3, 4, 5)), x -> x.mean(0), 3);
        takes("15 mean() of 2 and 3, cut", x -> tell(x, 0, 9, of(0, 1), of(3, 4, 5)), x -> x.mean(0), 2);
        takes("15 mean() of 3, 3, 2, cut", x -> tell(x, 0, 9, of(0, 1, 2), of(3, 4, 5), of(0, 6)), x -> x.mean(0), 2);
        takes("15 mean() of 3, 4, 2", x -> tell(x, 0, 9, of(0, 1, 2), of(3, 4, 5, 7), of(0, 6)), x -> x.mean(0), 3);
        takes("15 mean() of 45 LINES", x -> tellAlike(x, 0, 2, 45), x -> x.mean(0), 2);
        takes("15 mean() of LINES of 45", x -> {
            tellAlike(x, 0, 2, 45);
            x.dual(0, 0);
        }, x -> x.mean(0), 45);
    }
}
