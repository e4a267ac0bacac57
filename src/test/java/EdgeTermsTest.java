import java.util.ArrayList;
import java.util.List;

/** The edges that the document's Terms name: numbers of WORLDS and ROWS, the order of refusals, KINDS, ORDERS, the end. */
public final class EdgeTermsTest extends Edges {
    /** A call by the number of a WORLD or of a ROW. */
    private interface Numbered {
        long on(QuadWorlds x, int number);
    }

    /** want: what it answers where the number is one; needs: whether there must be one by the number. */
    private record Entry(String name, Numbered call, long want, boolean needs) {
    }

    private static final List<Entry> BY_WORLD = new ArrayList<>();
    private static final List<Entry> BY_FORM = new ArrayList<>();
    private static final List<Entry> BY_ROW = new ArrayList<>();

    public static void main(String[] args) {
        fillWorldCalls();
        fillRowCalls();
        numbersOfWorlds();
        missingWorlds();
        numbersOfRows();
        missingRows();
        orderOfRefusals();
        orderOfRefusalsInSearches();
        kinds();
        findingNumbers();
        near();
        right();
        orders();
        lastCalls();
        Due.end("EdgeTermsTest");
    }

    private static void add(List<Entry> to, String name, long want, boolean needs, Numbered call) {
        to.add(new Entry(name, call, want, needs));
    }

    private static void fillWorldCalls() {
        add(BY_WORLD, "2 world(w, 4)", 4, false, (x, w) -> x.world(w, 4));
        add(BY_WORLD, "4 grid(w, 2, 2)", 4, false, (x, w) -> x.grid(w, 2, 2));
        add(BY_WORLD, "5 form(w, 2)", 15, false, (x, w) -> x.form(w, 2));
        add(BY_WORLD, "6 dual(w, 1)", 6, true, (x, w) -> x.dual(w, 1));
        add(BY_WORLD, "6 dual(0, w)", 6, false, (x, w) -> x.dual(0, w));
        add(BY_WORLD, "8 part(w, 3, 1)", 2, true, (x, w) -> x.part(w, 3, 1));
        add(BY_WORLD, "8 part(0, 3, w)", 2, false, (x, w) -> x.part(0, 3, w));
        add(BY_WORLD, "9 drop(w)", 1, true, (x, w) -> x.drop(w));
        add(BY_WORLD, "10 told(w, 1)", 9, true, (x, w) -> x.told(w, 1));
        add(BY_WORLD, "11 mark(w, 1)", 3, true, (x, w) -> x.mark(w, 1));
        add(BY_WORLD, "12 points(w, 0)", 3, true, (x, w) -> x.points(w, 0));
        add(BY_WORLD, "13 lines(w, 0)", 2, true, (x, w) -> x.lines(w, 0));
        add(BY_WORLD, "14 fault(w)", 0, true, (x, w) -> x.fault(w));
        add(BY_WORLD, "15 mean(w)", 3, true, (x, w) -> x.mean(w));
        add(BY_WORLD, "16 perp(w, 1)", 5, true, (x, w) -> x.perp(w, 1));
        add(BY_WORLD, "17 span(w, 0, 4)", 2, true, (x, w) -> x.span(w, 0, 4));
        add(BY_WORLD, "18 regular(w, 0)", 1, true, (x, w) -> x.regular(w, 0));
        add(BY_WORLD, "19 centres(w, 0, 4, 1)", 1, true, (x, w) -> x.centres(w, 0, 4, 1));
        add(BY_WORLD, "20 ovoid(w, 9)", 3, true, (x, w) -> x.ovoid(w, 9));
        add(BY_WORLD, "21 spread(w, 9)", 3, true, (x, w) -> x.spread(w, 9));
        add(BY_WORLD, "22 ovoids(w, 99)", 1, true, (x, w) -> x.ovoids(w, 99));
        add(BY_WORLD, "24 meets(w, 1, true)", 1, true, (x, w) -> x.meets(w, 1, true));
        add(BY_WORLD, "25 rank(w, 2)", 5, true, (x, w) -> x.rank(w, 2));
        add(BY_WORLD, "26 alike(w, 0, 9)", 1, true, (x, w) -> x.alike(w, 0, 9));
        add(BY_WORLD, "26 alike(0, w, 9)", 1, true, (x, w) -> x.alike(0, w, 9));
        add(BY_WORLD, "28 far(w, 0, 8)", 2, true, (x, w) -> x.far(w, 0, 8));
        add(BY_FORM, "7 derive(w, 0, 1)", 8, true, (x, w) -> x.derive(w, 0, 1));
        add(BY_FORM, "7 derive(0, 0, w)", 8, false, (x, w) -> x.derive(0, 0, w));
        add(BY_ROW, "3 line(0, r)", 0, true, (x, r) -> x.line(0, r));
        add(BY_ROW, "29 row(r, 1)", 1, false, (x, r) -> x.row(r, 1));
        add(BY_ROW, "30 lay(r, 0, 5)", 1000, true, (x, r) -> x.lay(r, 0, 5));
        add(BY_ROW, "31 tear(r)", 1, true, (x, r) -> x.tear(r));
    }

    private static void fillRowCalls() {
        add(BY_ROW, "32 copy(r, 0, 0, 0, 1)", 1, true, (x, r) -> x.copy(r, 0, 0, 0, 1));
        add(BY_ROW, "32 copy(0, 0, r, 0, 1)", 1, true, (x, r) -> x.copy(0, 0, r, 0, 1));
    }

    private static void grids(QuadWorlds x) {
        x.grid(0, 3, 3);
        x.grid(5, 3, 3);
    }

    private static void forms(QuadWorlds x) {
        x.form(0, 2);
        x.form(5, 2);
    }

    private static void rows(QuadWorlds x) {
        x.world(0, 4);
        row(x, 0, 0, 1);
        row(x, 3, 0, 1);
    }

    private static void holdNumbers(List<Entry> calls, Setting setting, int[] ones, int[] none) {
        for (Entry e : calls) {
            for (int n : ones) {
                takes(e.name() + " by " + n, setting, x -> e.call().on(x, n), e.want());
            }
            for (int n : none) {
                refuses(e.name() + " by " + n, setting, x -> e.call().on(x, n), BAD);
            }
        }
    }

    private static void holdMissing(List<Entry> calls, Setting setting, int... numbers) {
        for (Entry e : calls) {
            for (int n : numbers) {
                if (e.needs()) {
                    finds(e.name() + " by " + n + ", missing", setting, x -> e.call().on(x, n), NOTHING);
                } else {
                    takes(e.name() + " by " + n + ", missing", setting, x -> e.call().on(x, n), e.want());
                }
            }
        }
    }

    /** "WORLDS 0 .. 5": 0 and 5 are some, -1 and 6 are none. */
    private static void numbersOfWorlds() {
        holdNumbers(BY_WORLD, EdgeTermsTest::grids, of(0, 5), NO_WORLD);
        holdNumbers(BY_FORM, EdgeTermsTest::forms, of(0, 5), NO_WORLD);
        Setting toLine = x -> {
            tell(x, 0, 3);
            tell(x, 5, 3);
            row(x, 0, 0, 1);
        };
        takes("3 line(0, 0)", toLine, x -> x.line(0, 0), 0);
        takes("3 line(5, 0)", toLine, x -> x.line(5, 0), 0);
        for (int w : NO_WORLD) {
            refuses("3 line(" + w + ", 0)", toLine, x -> x.line(w, 0), BAD);
        }
    }

    /** "(missing at first)"; NOTHING is a WORLD that is missing. */
    private static void missingWorlds() {
        holdMissing(BY_WORLD, EdgeTermsTest::grids, 1, 4);
        holdMissing(BY_FORM, EdgeTermsTest::forms, 1, 4);
        for (Entry e : BY_WORLD) {
            if (e.needs()) {
                finds(e.name() + " by 0 on a new object", Edges::none, x -> e.call().on(x, 0), NOTHING);
                finds(e.name() + " by 5 on a new object", Edges::none, x -> e.call().on(x, 5), NOTHING);
            }
        }
        Setting dropped = x -> {
            grids(x);
            x.drop(5);
        };
        holdMissing(BY_WORLD, dropped, 5);
        finds("3 line(4, 0) without a WORLD", Edges::house, x -> x.line(4, 0), NOTHING);
        finds("3 line(0, 3) without a ROW", Edges::house, x -> x.line(0, 3), NOTHING);
        finds("3 line(4, 3) without either", Edges::house, x -> x.line(4, 3), NOTHING);
    }

    /** "ROWS 0 .. 3": 0 and 3 are some, -1 and 4 are none. */
    private static void numbersOfRows() {
        holdNumbers(BY_ROW, EdgeTermsTest::rows, of(0, 3), NO_ROW);
    }

    /** "or missing (at first)"; NOTHING is a ROW that is missing. */
    private static void missingRows() {
        holdMissing(BY_ROW, EdgeTermsTest::rows, 1, 2);
        Setting torn = x -> {
            rows(x);
            x.tear(3);
        };
        holdMissing(BY_ROW, torn, 3);
        for (Entry e : BY_ROW) {
            if (e.needs() && !e.name().startsWith("3 ")) {
                finds(e.name() + " by 0 on a new object", Edges::none, x -> e.call().on(x, 0), NOTHING);
                finds(e.name() + " by 3 on a new object", Edges::none, x -> e.call().on(x, 3), NOTHING);
            }
        }
    }

    /** "Refused is, the first of these that fits, in this order: BAD, FULL, STATE, SPENT, FINDING, unless a call says so otherwise." */
    private static void orderOfRefusals() {
        Setting house = Edges::house;
        refuses("6 dual: BAD ahead of NOTHING", house, x -> x.dual(4, 6), BAD);
        refuses("6 dual: BAD ahead of STATE", house, x -> x.dual(0, 6), BAD);
        refuses("7 derive: BAD ahead of NOTHING", house, x -> x.derive(4, 0, 6), BAD);
        refuses("7 derive: BAD ahead of BEYOND", house, x -> x.derive(2, 15, 6), BAD);
        refuses("7 derive: BAD ahead of STATE", house, x -> x.derive(1, 0, -1), BAD);
        refuses("8 part: BAD of numbers ahead of NOTHING", house, x -> x.part(4, 3, 6), BAD);
        refuses("8 part: BAD ahead of STATE", house, x -> x.part(1, 0, 6), BAD);
        refuses("8 part: BAD of bits ahead of STATE", house, x -> x.part(5, 8, 4), BAD);
        refuses("10 told: BAD ahead of NOTHING", house, x -> x.told(4, 5), BAD);
        refuses("11 mark: BAD ahead of NOTHING", house, x -> x.mark(4, 0), BAD);
        refuses("11 mark: BAD ahead of UNLIKE, KIND 0", house, x -> x.mark(1, 0), BAD);
        refuses("11 mark: BAD ahead of UNLIKE, KIND 4", house, x -> x.mark(1, 4), BAD);
        finds("12 points: NOTHING ahead of BEYOND", house, x -> x.points(4, 45), NOTHING);
        finds("13 lines: NOTHING ahead of BEYOND", house, x -> x.lines(4, 45), NOTHING);
        finds("17 span: NOTHING ahead of BEYOND", house, x -> x.span(4, -1, 45), NOTHING);
        finds("18 regular: NOTHING ahead of BEYOND", house, x -> x.regular(4, 45), NOTHING);
        finds("19 centres: NOTHING ahead of BEYOND", house, x -> x.centres(4, 0, 0, 45), NOTHING);
        refuses("24 meets: BAD of bits ahead of NOUGHT", house, x -> x.meets(5, 8, true), BAD);
        refuses("25 rank: BAD ahead of NOTHING", house, x -> x.rank(4, 4), BAD);
        finds("28 far: NOTHING ahead of BEYOND", house, x -> x.far(4, 45, 45), NOTHING);
        refuses("29 row: BAD ahead of SIZE", house, x -> x.row(4, -1), BAD);
        refuses("30 lay: BAD ahead of all", house, x -> x.lay(4, 99, 0), BAD);
        finds("30 lay: NOTHING ahead of BEYOND", house, x -> x.lay(3, 12, 0), NOTHING);
    }

    private static void orderOfRefusalsInSearches() {
        Setting house = Edges::house;
        refuses("20 ovoid: BAD ahead of NOTHING", house, x -> x.ovoid(4, 0), BAD);
        refuses("21 spread: BAD ahead of NOTHING", house, x -> x.spread(4, 0), BAD);
        refuses("22 ovoids: BAD ahead of NOTHING", house, x -> x.ovoids(4, 0), BAD);
        refuses("26 alike: BAD of tries ahead of NOTHING", house, x -> x.alike(4, 0, 0), BAD);
        refuses("26 alike: BAD of the other one ahead of NOTHING", house, x -> x.alike(4, 6, 9), BAD);
        refuses("26 alike: BAD of the first one ahead of NOTHING", house, x -> x.alike(6, 4, 9), BAD);
    }

    /** "KINDS: 0 WORLD, 1 GRID, 2 FORM, 3 MADE": what each call that makes one makes. */
    private static void kinds() {
        Setting house = Edges::house;
        takes("10 told: KIND of a told one", house, x -> x.told(0, 0), 0);
        takes("10 told: KIND of a GRID", house, x -> x.told(1, 0), 1);
        takes("10 told: KIND of a FORM", house, x -> x.told(2, 0), 2);
        takes("10 told: KIND of a MADE one", house, x -> x.told(3, 0), 3);
        takes("2 world() over a FORM", house, x -> x.world(2, 3), 3, look("KIND", x -> x.told(2, 0), 0));
        takes("4 grid() over a FORM", house, x -> x.grid(2, 3, 3), 9, look("KIND", x -> x.told(2, 0), 1));
        takes("5 form() over a GRID", house, x -> x.form(1, 3), 40, look("KIND", x -> x.told(1, 0), 2));
        takes("6 dual() over a GRID", house, x -> x.dual(2, 1), 15, look("KIND", x -> x.told(1, 0), 3));
        takes("7 derive() over a GRID", house, x -> x.derive(2, 0, 1), 8, look("KIND", x -> x.told(1, 0), 3));
        takes("8 part() over a GRID", house, x -> x.part(2, 25, 1), 3, look("KIND", x -> x.told(1, 0), 3));
    }

    /** "FINDINGS: 1 NOTHING, 2 BEYOND, 3 UNLIKE, 4 NOUGHT, 5 SIZE." */
    private static void findingNumbers() {
        Setting house = Edges::house;
        finds("FINDING 1 of a WORLD", house, x -> x.told(4, 0), 1);
        finds("FINDING 1 of a ROW", house, x -> x.tear(3), 1);
        finds("FINDING 2", house, x -> x.lines(0, 6), 2);
        finds("FINDING 3", house, x -> x.mark(0, 1), 3);
        finds("FINDING 4", house, x -> x.mean(5), 4);
        finds("FINDING 5", house, x -> x.row(0, -1), 5);
    }

    /** "TWO POINTS are NEAR, if they are alike, or on a LINE together." */
    private static void near() {
        Setting house = Edges::house;
        takes("16 perp: a POINT on no LINE is NEAR itself", house, x -> x.perp(0, bits(5)), 1,
            look("asked()", x -> x.asked(), bits(5)));
        takes("16 perp: ends of a LINE", house, x -> x.perp(0, bits(1)), 4, look("asked()", x -> x.asked(), bits(0, 1, 2, 3)));
        takes("16 perp: on two LINES that meet, not on one", house, x -> x.perp(0, bits(2)), 3,
            look("asked()", x -> x.asked(), bits(1, 2, 3)));
        takes("16 perp: without LINES", house, x -> x.perp(5, bits(2)), 1, look("asked()", x -> x.asked(), bits(2)));
    }

    /** "RIGHT, if no two LINES have two POINTS together, no two are alike, and ... just one LINE through the POINT meets it." */
    private static void right() {
        takes("14 fault: one POINT together", x -> tell(x, 0, 3, of(0, 1), of(0, 2)), x -> x.fault(0), 0);
        takes("14 fault: two POINTS together", x -> tell(x, 0, 4, of(0, 1, 2), of(0, 1, 3)), x -> x.fault(0), 1);
        takes("14 fault: alike", x -> tell(x, 0, 2, of(0, 1), of(0, 1)), x -> x.fault(0), 1);
        takes("14 fault: a ring of 4", x -> tell(x, 0, 4, of(0, 1), of(1, 2), of(2, 3), of(3, 0)), x -> x.fault(0), 0);
        takes("14 fault: a ring of 3", x -> tell(x, 0, 3, of(0, 1), of(1, 2), of(2, 0)), x -> x.fault(0), 3);
        takes("14 fault: a ring of 5", x -> tell(x, 0, 5, of(0, 1), of(1, 2), of(2, 3), of(3, 4), of(4, 0)), x -> x.fault(0), 2);
        takes("14 fault: no LINES", x -> x.world(0, 2), x -> x.fault(0), 0);
    }

    /** "ORDERS: ... if these are not alike for all, or there are no LINES: NONE." */
    private static void orders() {
        Setting bare = x -> x.world(0, 2);
        takes("10 told: s without LINES", bare, x -> x.told(0, 3), NONE);
        takes("10 told: t without LINES", bare, x -> x.told(0, 4), NONE);
        Setting one = x -> tell(x, 0, 2, of(0, 1));
        takes("10 told: s of one LINE of two", one, x -> x.told(0, 3), 1);
        takes("10 told: t of one LINE of all", one, x -> x.told(0, 4), 0);
        Setting off = x -> tell(x, 0, 3, of(0, 1));
        takes("10 told: s with a POINT on no LINE", off, x -> x.told(0, 3), 1);
        takes("10 told: t with a POINT on no LINE", off, x -> x.told(0, 4), NONE);
        Setting lastOff = x -> tell(x, 0, 4, of(0, 1), of(2, 3), of(0, 2), of(1, 3, 2));
        takes("10 told: s, the last LINE unlike", lastOff, x -> x.told(0, 3), NONE);
        takes("10 told: t, POINT 2 unlike", lastOff, x -> x.told(0, 4), NONE);
        for (int p = 0; p < 4; p++) {
            int out = p;
            Setting alone = x -> tell(x, 0, 4, of((out + 1) % 4, (out + 2) % 4, (out + 3) % 4));
            takes("10 told: t, POINT " + p + " alone unlike", alone, x -> x.told(0, 4), NONE);
            Setting line = x -> tell(x, 0, 4, out == 0 ? of(0, 1, 2) : of(0, 1), out == 1 ? of(1, 2, 3) : of(1, 2),
                out == 2 ? of(2, 3, 0) : of(2, 3), out == 3 ? of(3, 0, 1) : of(3, 0));
            takes("10 told: s, LINE " + p + " alone unlike", line, x -> x.told(0, 3), NONE);
        }
        Setting most = x -> tellAlike(x, 0, 2, 45);
        takes("10 told: s of 45 LINES", most, x -> x.told(0, 3), 1);
        takes("10 told: t of 45 LINES", most, x -> x.told(0, 4), 44);
        Setting whole = x -> {
            x.world(0, 45);
            row(x, 3, 0, 1, 2, 3, 4, 5, 6, 7, 8, 9, 10, 11);
            x.line(0, 3);
        };
        takes("10 told: s of the longest LINE", whole, x -> x.told(0, 3), 11);
    }

    /** "An object is used for at most 512 calls": the last of them still answer as due. */
    private static void lastCalls() {
        QuadWorlds x = new QuadWorlds();
        Due.is("call 1 of 512", 15, x.form(0, 2));
        for (int i = 2; i < 500; i++) {
            x.ovoids(0, 100000);
        }
        Due.is("call 500 of 512", 8, x.derive(0, 0, 5));
        Due.is("call 501 of 512", 15, x.dual(0, 0));
        for (int i = 502; i < 511; i++) {
            Due.is("call " + i + " of 512", 3, x.perp(0, 3));
        }
        Due.is("call 511 of 512", FINDING, x.told(1, 0));
        Due.is("call 512 of 512", 1, x.findings(NOTHING));
    }
}
