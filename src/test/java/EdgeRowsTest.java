/** The edges that promises 29 to 37 name: ROWS and what is told. */
public final class EdgeRowsTest extends Edges {
    public static void main(String[] args) {
        row29();
        lay30();
        tear31();
        copySizes32();
        copyPlaces32();
        copyAlong32();
        copyOrder32();
        asked33();
        askedStays33();
        count34();
        finding35();
        findings36();
        digest37();
        Due.end("EdgeRowsTest");
    }

    private static Look place(int r, int i, int v) {
        return look("place " + i + " of ROW " + r, x -> x.lay(r, i, v) - 1000, v);
    }

    private static Look askedIs(long set) {
        return look("asked()", x -> x.asked(), set);
    }

    /** 29: "A ROW is there with n ints 0: n. BAD: also n above 12; SIZE." (fewer than none) */
    private static void row29() {
        Setting house = Edges::house;
        finds("29 row(0, -1)", house, x -> x.row(0, -1), SIZE);
        finds("29 row(0, least)", house, x -> x.row(0, LEAST), SIZE);
        finds("29 row(3, -1) of a missing one", house, x -> x.row(3, -1), SIZE);
        takes("29 row(0, 0)", house, x -> x.row(0, 0), 0,
            look("count(3)", x -> x.count(3), 3), look("lay(0, 0, 0)", x -> x.lay(0, 0, 0), FINDING));
        takes("29 row(3, 0) of a missing one", house, x -> x.row(3, 0), 0, look("count(3)", x -> x.count(3), 4));
        takes("29 row(0, 1)", house, x -> x.row(0, 1), 1, place(0, 0, 0), look("lay(0, 1, 0)", x -> x.lay(0, 1, 0), FINDING));
        takes("29 row(0, 11)", house, x -> x.row(0, 11), 11, look("lay(0, 11, 0)", x -> x.lay(0, 11, 0), FINDING));
        takes("29 row(0, 12)", house, x -> x.row(0, 12), 12, place(0, 0, 0), place(0, 1, 0), place(0, 11, 0));
        refuses("29 row(0, 13)", house, x -> x.row(0, 13), BAD);
        refuses("29 row(0, most)", house, x -> x.row(0, MOST), BAD);
        refuses("29 row(3, 13) of a missing one", house, x -> x.row(3, 13), BAD);
        Setting full = x -> row(x, 0, 1, 2, 3, 4, 5, 6, 7, 8, 9, 10, 11, 12);
        takes("29 row(0, 12) over a full one", full, x -> x.row(0, 12), 12, place(0, 0, 0), place(0, 5, 0), place(0, 11, 0));
        Setting shorter = x -> {
            full.on(x);
            x.row(0, 1);
        };
        takes("29 row(0, 12) over one that was longer", shorter, x -> x.row(0, 12), 12, place(0, 1, 0), place(0, 11, 0));
        Setting torn = x -> {
            full.on(x);
            x.tear(0);
        };
        takes("29 row(0, 12) behind tear()", torn, x -> x.row(0, 12), 12, place(0, 0, 0), place(0, 11, 0));
    }

    /** 30: "Place i of a ROW is v: what it was, and 1000 more (an int that wraps). BAD; NOTHING; BEYOND." */
    private static void lay30() {
        Setting house = Edges::house;
        finds("30 lay(0, -1, 5)", house, x -> x.lay(0, -1, 5), BEYOND);
        takes("30 lay(0, 0, 5)", house, x -> x.lay(0, 0, 5), 1000, place(0, 0, 5), place(0, 1, 2));
        takes("30 lay(0, 1, 5)", house, x -> x.lay(0, 1, 5), 1002, place(0, 0, 0), place(0, 1, 5));
        finds("30 lay(0, 2, 5)", house, x -> x.lay(0, 2, 5), BEYOND);
        finds("30 lay(0, least, 5)", house, x -> x.lay(0, LEAST, 5), BEYOND);
        finds("30 lay(0, most, 5)", house, x -> x.lay(0, MOST, 5), BEYOND);
        finds("30 lay(2, 0, 5) of an empty one", house, x -> x.lay(2, 0, 5), BEYOND);
        finds("30 lay(3, 0, 5) of a missing one", house, x -> x.lay(3, 0, 5), NOTHING);
        Setting twelve = x -> x.row(3, 12);
        takes("30 lay(3, 11, 5)", twelve, x -> x.lay(3, 11, 5), 1000, place(3, 11, 5));
        finds("30 lay(3, 12, 5)", twelve, x -> x.lay(3, 12, 5), BEYOND);
        int last = MOST - 1000;
        int[][] wraps = {{last, MOST}, {last + 1, LEAST}, {last + 2, LEAST + 1}, {MOST, -2147482649}, {LEAST, LEAST + 1000},
            {-1000, 0}, {-1001, -1}, {-999, 1}, {-1, 999}};
        for (int[] wrap : wraps) {
            takes("30 lay() where it was " + wrap[0], x -> row(x, 0, 3, wrap[0]), x -> x.lay(0, 1, 7), wrap[1], place(0, 1, 7));
        }
        takes("30 lay(0, 0, most)", house, x -> x.lay(0, 0, MOST), 1000, place(0, 0, MOST));
        takes("30 lay(0, 0, least)", house, x -> x.lay(0, 0, LEAST), 1000, place(0, 0, LEAST));
    }

    /** 31: "A ROW is missing: 1. BAD; NOTHING." */
    private static void tear31() {
        Setting house = Edges::house;
        takes("31 tear(0)", house, x -> x.tear(0), 1, look("count(3)", x -> x.count(3), 2),
            look("lay(0, 0, 0)", x -> x.lay(0, 0, 0), FINDING), look("finding()", x -> x.finding(), NOTHING));
        takes("31 tear(2) of an empty one", house, x -> x.tear(2), 1, look("tear(2)", x -> x.tear(2), FINDING),
            look("finding()", x -> x.finding(), NOTHING));
        finds("31 tear(3) of a missing one", house, x -> x.tear(3), NOTHING);
        takes("31 tear(0) leaves the others", house, x -> x.tear(0), 1, place(1, 0, 4));
    }

    /** 32: "SIZE: n below 0": -1, 0, 1. */
    private static void copySizes32() {
        Setting house = Edges::house;
        finds("32 copy() of -1", house, x -> x.copy(0, 0, 1, 0, -1), SIZE);
        finds("32 copy() of the least", house, x -> x.copy(0, 0, 1, 0, LEAST), SIZE);
        takes("32 copy() of 0", house, x -> x.copy(0, 0, 1, 0, 0), 1, place(1, 0, 4));
        takes("32 copy() of 1", house, x -> x.copy(0, 0, 1, 0, 1), 1, place(1, 0, 0), place(0, 0, 0), place(0, 1, 2));
    }

    /** 32: "BEYOND: not so many there (with n 0, too, if i or j is below 0 or above the size)." */
    private static void copyPlaces32() {
        Setting rows = x -> {
            row(x, 0, 11, 12, 13, 14);
            row(x, 1, 21, 22, 23);
            row(x, 2);
        };
        takes("32 copy() of all", rows, x -> x.copy(0, 1, 1, 0, 3), 1, place(1, 0, 12), place(1, 1, 13), place(1, 2, 14),
            place(0, 0, 11), place(0, 3, 14));
        finds("32 copy() of one more than the first has behind i", rows, x -> x.copy(0, 2, 1, 0, 3), BEYOND);
        finds("32 copy() of one more than the other has", rows, x -> x.copy(0, 0, 1, 0, 4), BEYOND);
        finds("32 copy() of one more than the other has behind j", rows, x -> x.copy(0, 0, 1, 1, 3), BEYOND);
        takes("32 copy() of the last one to the last one", rows, x -> x.copy(0, 3, 1, 2, 1), 1, place(1, 2, 14), place(1, 1, 22));
        finds("32 copy() from i at the size", rows, x -> x.copy(0, 4, 1, 0, 1), BEYOND);
        finds("32 copy() to j at the size", rows, x -> x.copy(0, 0, 1, 3, 1), BEYOND);
        finds("32 copy() from -1", rows, x -> x.copy(0, -1, 1, 0, 1), BEYOND);
        finds("32 copy() to -1", rows, x -> x.copy(0, 0, 1, -1, 1), BEYOND);
        finds("32 copy() from the most", rows, x -> x.copy(0, MOST, 1, 0, 1), BEYOND);
        finds("32 copy() to the most", rows, x -> x.copy(0, 0, 1, MOST, 1), BEYOND);
        finds("32 copy() from the least", rows, x -> x.copy(0, LEAST, 1, 0, 1), BEYOND);
        finds("32 copy() to the least", rows, x -> x.copy(0, 0, 1, LEAST, 1), BEYOND);
        finds("32 copy() of the most from 1", rows, x -> x.copy(0, 1, 1, 1, MOST), BEYOND);
        finds("32 copy() of the most from the most", rows, x -> x.copy(0, MOST, 1, MOST, MOST), BEYOND);
        takes("32 copy() of 0 from the size to the size", rows, x -> x.copy(0, 4, 1, 3, 0), 1, place(1, 2, 23));
        finds("32 copy() of 0 from above the size", rows, x -> x.copy(0, 5, 1, 0, 0), BEYOND);
        finds("32 copy() of 0 to above the size", rows, x -> x.copy(0, 0, 1, 4, 0), BEYOND);
        finds("32 copy() of 0 from -1", rows, x -> x.copy(0, -1, 1, 0, 0), BEYOND);
        finds("32 copy() of 0 to -1", rows, x -> x.copy(0, 0, 1, -1, 0), BEYOND);
        takes("32 copy() of 0 of an empty one", rows, x -> x.copy(2, 0, 2, 0, 0), 1);
        finds("32 copy() of 0 of an empty one from 1", rows, x -> x.copy(2, 1, 2, 0, 0), BEYOND);
        finds("32 copy() of 1 of an empty one", rows, x -> x.copy(2, 0, 0, 0, 1), BEYOND);
        finds("32 copy() of 1 to an empty one", rows, x -> x.copy(0, 0, 2, 0, 1), BEYOND);
    }

    /** 32: "(perhaps itself) ..., as if taken ahead". */
    private static void copyAlong32() {
        Setting row = x -> row(x, 0, 1, 2, 3, 4, 5);
        takes("32 copy() in itself, to the back", row, x -> x.copy(0, 0, 0, 1, 4), 1,
            place(0, 0, 1), place(0, 1, 1), place(0, 2, 2), place(0, 3, 3), place(0, 4, 4));
        takes("32 copy() in itself, to the front", row, x -> x.copy(0, 1, 0, 0, 4), 1,
            place(0, 0, 2), place(0, 1, 3), place(0, 2, 4), place(0, 3, 5), place(0, 4, 5));
        takes("32 copy() in itself, to its own place", row, x -> x.copy(0, 0, 0, 0, 5), 1, place(0, 0, 1), place(0, 4, 5));
        finds("32 copy() in itself, one too many", row, x -> x.copy(0, 0, 0, 1, 5), BEYOND);
        Setting twelve = x -> {
            row(x, 0, 1, 2, 3, 4, 5, 6, 7, 8, 9, 10, 11, 12);
            x.row(3, 12);
        };
        takes("32 copy() of twelve", twelve, x -> x.copy(0, 0, 3, 0, 12), 1, place(3, 0, 1), place(3, 11, 12));
        finds("32 copy() of thirteen", twelve, x -> x.copy(0, 0, 3, 0, 13), BEYOND);
    }

    /** 32: "BAD; SIZE; NOTHING: either; BEYOND. (In this order.)" */
    private static void copyOrder32() {
        Setting house = Edges::house;
        refuses("32 copy: BAD of r ahead of SIZE", house, x -> x.copy(4, 0, 0, 0, -1), BAD);
        refuses("32 copy: BAD of to ahead of SIZE", house, x -> x.copy(0, 0, 4, 0, -1), BAD);
        refuses("32 copy: BAD of to ahead of NOTHING", house, x -> x.copy(3, 0, -1, 0, 1), BAD);
        refuses("32 copy: BAD ahead of BEYOND", house, x -> x.copy(0, 9, 4, 0, 1), BAD);
        finds("32 copy: SIZE ahead of NOTHING", house, x -> x.copy(3, 0, 3, 0, -1), SIZE);
        finds("32 copy: SIZE ahead of BEYOND", house, x -> x.copy(0, 9, 1, -1, -1), SIZE);
        finds("32 copy: NOTHING of r ahead of BEYOND", house, x -> x.copy(3, 99, 0, 99, 1), NOTHING);
        finds("32 copy: NOTHING of to ahead of BEYOND", house, x -> x.copy(0, 99, 3, 99, 1), NOTHING);
        finds("32 copy: NOTHING with n 0", house, x -> x.copy(0, 0, 3, 0, 0), NOTHING);
    }

    /** 33: "What the latest points(), lines(), fault() (above 0), perp(), span(), ovoid(), spread(), ovoids() ... told; 0 before." */
    private static void asked33() {
        Due.is("33 asked() before", 0, new QuadWorlds().asked());
        Setting house = Edges::house;
        takes("33 of points()", house, x -> x.points(0, 1), 3, askedIs(bits(1, 2, 3)));
        takes("33 of lines()", house, x -> x.lines(0, 3), 2, askedIs(bits(1, 2)));
        takes("33 of lines(), none", house, x -> x.lines(0, 5), 0, askedIs(0));
        takes("33 of fault()", house, x -> x.fault(0), 2, askedIs(4));
        takes("33 of perp()", house, x -> x.perp(0, 0), 6, askedIs(63));
        takes("33 of span()", house, x -> x.span(0, 0, 2), 4, askedIs(bits(0, 1, 2, 3)));
        takes("33 of ovoid()", house, x -> x.ovoid(0, 9), 3, askedIs(bits(0, 2, 4)));
        takes("33 of ovoid() without LINES", house, x -> x.ovoid(5, 9), 0, askedIs(0));
        takes("33 of spread()", house, x -> x.spread(1, 9), 3, askedIs(7));
        takes("33 of ovoids()", house, x -> x.ovoids(0, 9), 1, askedIs(3));
    }

    /** 33: "... that was not refused (nor NONE)", nor a fault() of 0, nor another call. */
    private static void askedStays33() {
        Setting house = Edges::house;
        Look stays = askedIs(bits(6, 9, 12));
        takes("33 behind fault() of 0", house, x -> x.fault(1), 0, stays);
        takes("33 behind an ovoid() of NONE", house, x -> x.ovoid(1, 99), NONE, stays);
        takes("33 behind a spread() of NONE", house, x -> x.spread(5, 99), NONE, stays);
        takes("33 behind tries()", house, x -> x.tries(), 5, stays);
        takes("33 behind told()", house, x -> x.told(1, 1), 12, stays);
        takes("33 behind mark()", house, x -> x.mark(1, 1), 3, stays);
        takes("33 behind mean()", house, x -> x.mean(1), 3, stays);
        takes("33 behind regular()", house, x -> x.regular(1, 0), 1, stays);
        takes("33 behind centres()", house, x -> x.centres(1, 0, 0, 0), 6, stays);
        takes("33 behind meets()", house, x -> x.meets(1, 0, true), 0, stays);
        takes("33 behind rank()", house, x -> x.rank(1, 2), 6, stays);
        takes("33 behind alike()", house, x -> x.alike(1, 1, 99), 1, stays);
        takes("33 behind far()", house, x -> x.far(1, 0, 1), 1, stays);
        takes("33 behind drop()", house, x -> x.drop(2), 1, stays);
        takes("33 behind dual()", house, x -> x.dual(2, 2), 15, stays);
        takes("33 behind derive()", house, x -> x.derive(2, 0, 2), 8, stays);
        takes("33 behind part()", house, x -> x.part(2, 25, 2), 3, stays);
        takes("33 behind line()", house, x -> x.line(0, 0), 3, stays);
        spends("33 behind a SPENT ovoid()", house, x -> x.ovoid(2, 1), 1);
        spends("33 behind a SPENT spread()", house, x -> x.spread(2, 1), 1);
        spends("33 behind SPENT ovoids()", house, x -> x.ovoids(2, 31), 31);
    }

    /** 34: "0 WORLDS that are there, 1 POINTS in all, 2 LINES in all, 3 ROWS that are there. BAD." */
    private static void count34() {
        Setting house = Edges::house;
        for (int what = 0; what < 4; what++) {
            int w = what;
            takes("34 count(" + what + ") of none", Edges::none, x -> x.count(w), 0);
        }
        refuses("34 count(-1)", house, x -> x.count(-1), BAD);
        takes("34 count(0)", house, x -> x.count(0), 5);
        takes("34 count(1)", house, x -> x.count(1), 6 + 12 + 15 + 5 + 3);
        takes("34 count(2)", house, x -> x.count(2), 3 + 7 + 15 + 6);
        takes("34 count(3)", house, x -> x.count(3), 3);
        refuses("34 count(4)", house, x -> x.count(4), BAD);
        refuses("34 count(least)", house, x -> x.count(LEAST), BAD);
        refuses("34 count(most)", house, x -> x.count(MOST), BAD);
        Setting all = x -> {
            for (int w = 0; w < 6; w++) {
                x.form(w, 3);
                x.derive(w, 0, w);
                x.row(w % 4, 0);
            }
        };
        takes("34 count(0) of all", all, x -> x.count(0), 6);
        takes("34 count(1) of all", all, x -> x.count(1), 6 * 27);
        takes("34 count(2) of all", all, x -> x.count(2), 6 * 45);
        takes("34 count(3) of all", all, x -> x.count(3), 4);
    }

    /** 35: "The latest FINDING (0 before any)." */
    private static void finding35() {
        QuadWorlds x = new QuadWorlds();
        Due.is("35 finding() before any", 0, x.finding());
        x.world(0, 99);
        Due.is("35 finding() behind BAD", 0, x.finding());
        x.world(0, 4);
        x.dual(0, 0);
        Due.is("35 finding() behind STATE", 0, x.finding());
        x.alike(0, 0, 1);
        Due.is("35 finding() behind SPENT", 0, x.finding());
        x.spread(0, 1);
        Due.is("35 finding() behind NONE", 0, x.finding());
        x.mean(0);
        Due.is("35 finding() behind NOUGHT", NOUGHT, x.finding());
        x.mark(0, 1);
        Due.is("35 finding() behind UNLIKE", UNLIKE, x.finding());
        x.mean(0);
        Due.is("35 finding() behind NOUGHT once more", NOUGHT, x.finding());
        x.told(0, 1);
        Due.is("35 finding() behind an answer", NOUGHT, x.finding());
    }

    /** 36: "How often a FINDING (1 .. 5) was answered. BAD." */
    private static void findings36() {
        Setting house = Edges::house;
        refuses("36 findings(0)", house, x -> x.findings(0), BAD);
        refuses("36 findings(6)", house, x -> x.findings(6), BAD);
        refuses("36 findings(-1)", house, x -> x.findings(-1), BAD);
        refuses("36 findings(least)", house, x -> x.findings(LEAST), BAD);
        refuses("36 findings(most)", house, x -> x.findings(MOST), BAD);
        Setting many = x -> {
            x.world(0, 3);
            for (int i = 0; i < 5; i++) {
                x.drop(1);
                x.row(0, i < 4 ? -1 : 1);
                x.mean(i < 3 ? 0 : 9);
                x.mark(0, i < 2 ? 1 : 0);
                x.lines(0, i < 1 ? 3 : 2);
            }
        };
        takes("36 findings(1)", many, x -> x.findings(1), 5);
        takes("36 findings(2)", many, x -> x.findings(2), 1);
        takes("36 findings(3)", many, x -> x.findings(3), 2);
        takes("36 findings(4)", many, x -> x.findings(4), 3);
        // one more by the setting's end
        takes("36 findings(5)", many, x -> x.findings(5), 5);
    }

    private static long told(long... values) {
        long h = 17;
        for (long v : values) {
            h = 31 * h + v;
        }
        return h;
    }

    /** 37: "of each WORLD P (-1: missing), L, its KIND, the sets of its LINES; of each ROW its size (-1: missing) and places." */
    private static void digest37() {
        long m = -1;
        takes("37 of nothing", Edges::none, x -> x.digest(), told(m, m, m, m, m, m, m, m, m, m));
        Setting bare = x -> x.world(0, 2);
        takes("37 of a WORLD without LINES", bare, x -> x.digest(), told(2, 0, 0, m, m, m, m, m, m, m, m, m));
        Setting last = x -> x.grid(5, 2, 2);
        takes("37 of the last WORLD", last, x -> x.digest(), told(m, m, m, m, m, 4, 4, 1, 3, 12, 5, 10, m, m, m, m));
        Setting dropped = x -> {
            x.grid(5, 2, 2);
            x.drop(5);
        };
        takes("37 of a dropped one", dropped, x -> x.digest(), told(m, m, m, m, m, m, m, m, m, m));
        Setting high = x -> tell(x, 1, 45, of(44, 0), of(43, 44));
        takes("37 of POINT 44", high, x -> x.digest(),
            told(m, 45, 2, 0, 1L << 44 | 1, 3L << 43, m, m, m, m, m, m, m, m));
        Setting rows = x -> {
            row(x, 0);
            row(x, 3, LEAST, MOST, 0);
        };
        takes("37 of ROWS", rows, x -> x.digest(), told(m, m, m, m, m, m, 0, m, m, 3, LEAST, MOST, 0));
        Setting torn = x -> {
            rows.on(x);
            x.tear(3);
        };
        takes("37 of a torn one", torn, x -> x.digest(), told(m, m, m, m, m, m, 0, m, m, m));
        Setting made = x -> {
            x.grid(0, 2, 2);
            x.dual(0, 1);
        };
        takes("37 of a MADE one", made, x -> x.digest(),
            told(4, 4, 1, 3, 12, 5, 10, 4, 4, 3, 5, 9, 6, 10, m, m, m, m, m, m, m, m));
    }
}
