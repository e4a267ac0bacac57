/** The edges that promises 16 to 28 name: what is near, spans, searches with their TRIES, ranks, likeness, steps. */
public final class EdgeSetsTest extends Edges {
    private static final int[] NO_TRIES = {0, -1, 100001, 100002, LEAST, MOST};

    public static void main(String[] args) {
        perp16();
        span17();
        spanSets17();
        regular18();
        regularSpans18();
        centres19();
        ovoidTries20();
        ovoidSeeking20();
        ovoidNone20();
        spreadTries21();
        spreadSeeking21();
        ovoids22();
        mostTries();
        longestSearches();
        tries23();
        triesStay23();
        meets24();
        rank25();
        rankPrimes25();
        alikeTries26();
        alikeWithout26();
        alikeFits26();
        alikeLines26();
        sent27();
        sentStays27();
        far28();
        Due.end("EdgeSetsTest");
    }

    private static Look askedIs(long set) {
        return look("asked()", x -> x.asked(), set);
    }

    private static Look triesAre(int n) {
        return look("tries()", x -> x.tries(), n);
    }

    private static Look sentTo(int p, int q) {
        return look("sent(" + p + ")", x -> x.sent(p), q);
    }

    /** As many LINES of two POINTS as pairs, no two of which meet; behind them a ring of three POINTS, if wanted. */
    private static void pairs(QuadWorlds x, int w, int pairs, int times, boolean ring) {
        x.world(w, 2 * pairs + (ring ? 3 : 0));
        for (int i = 0; i < pairs; i++) {
            row(x, 3, 2 * i, 2 * i + 1);
            for (int time = 0; time < times; time++) {
                x.line(w, 3);
            }
        }
        for (int i = 0; ring && i < 3; i++) {
            row(x, 3, 2 * pairs + i, 2 * pairs + (i + 1) % 3);
            x.line(w, 3);
        }
        x.tear(3);
    }

    /** 16: "PERP of a set, told by asked(): how many. BAD: also bits beyond P; NOTHING. (BAD of bits behind NOTHING.)" */
    private static void perp16() {
        Setting house = Edges::house;
        finds("16 perp(4, 0)", house, x -> x.perp(4, 0), NOTHING);
        finds("16 perp(4, -1): NOTHING ahead of bits", house, x -> x.perp(4, -1), NOTHING);
        takes("16 perp() of no POINT: all", house, x -> x.perp(1, 0), 12, askedIs(4095));
        takes("16 perp() with bit P - 1", house, x -> x.perp(1, bits(11)), 6, askedIs(bits(3, 7, 8, 9, 10, 11)));
        for (int bit : of(12, 13, 31, 32, 44, 45, 62, 63)) {
            refuses("16 perp() with bit " + bit + " of 12", house, x -> x.perp(1, bits(bit)), BAD);
            refuses("16 perp() with bits 0 and " + bit + " of 12", house, x -> x.perp(1, bits(0, bit)), BAD);
        }
        refuses("16 perp() of all bits", house, x -> x.perp(1, -1), BAD);
        takes("16 perp() of all", house, x -> x.perp(1, 4095), 0, askedIs(0));
        takes("16 perp() of two on a LINE", house, x -> x.perp(1, bits(0, 3)), 4, askedIs(15));
        takes("16 perp() of two not NEAR", house, x -> x.perp(1, bits(0, 11)), 2, askedIs(bits(3, 8)));
        Setting large = x -> tell(x, 0, 45, of(0, 44));
        takes("16 perp() with bit 44 of 45", large, x -> x.perp(0, bits(44)), 2, askedIs(bits(0, 44)));
        takes("16 perp() of no POINT of 45", large, x -> x.perp(0, 0), 45, askedIs((1L << 45) - 1));
        refuses("16 perp() with bit 45 of 45", large, x -> x.perp(0, bits(45)), BAD);
        refuses("16 perp() with bit 63 of 45", large, x -> x.perp(0, bits(0, 63)), BAD);
    }

    /** 17: "BEYOND: either; STATE: they are NEAR. (STATE behind these.)" */
    private static void span17() {
        Setting house = Edges::house;
        finds("17 span(4, 0, 1)", house, x -> x.span(4, 0, 1), NOTHING);
        for (int p : of(-1, 12, 13, 45, 64, LEAST, MOST)) {
            finds("17 span(1, " + p + ", 0)", house, x -> x.span(1, p, 0), BEYOND);
            finds("17 span(1, 5, " + p + ")", house, x -> x.span(1, 5, p), BEYOND);
            finds("17 span(1, " + p + ", " + p + "): BEYOND ahead of STATE", house, x -> x.span(1, p, p), BEYOND);
        }
        takes("17 span(1, 0, 11)", house, x -> x.span(1, 0, 11), 2, askedIs(bits(0, 11)));
        takes("17 span(1, 11, 0)", house, x -> x.span(1, 11, 0), 2, askedIs(bits(0, 11)));
        refuses("17 span(1, 0, 0): alike", house, x -> x.span(1, 0, 0), STATE);
        refuses("17 span(1, 11, 11): alike", house, x -> x.span(1, 11, 11), STATE);
        refuses("17 span(1, 0, 3): on a LINE", house, x -> x.span(1, 0, 3), STATE);
        refuses("17 span(1, 8, 0): on a LINE", house, x -> x.span(1, 8, 0), STATE);
        refuses("17 span(0, 5, 5): alike, on no LINE", house, x -> x.span(0, 5, 5), STATE);
        refuses("17 span(5, 0, 0): alike, without LINES", house, x -> x.span(5, 0, 0), STATE);
    }

    /** 17: "SPAN of two POINTS that are not NEAR: PERP of their PERP." */
    private static void spanSets17() {
        Setting house = Edges::house;
        takes("17 span() in a FORM of 2", house, x -> x.span(2, 0, 1), 3, askedIs(bits(0, 1, 2)));
        takes("17 span() of none NEAR both: all", house, x -> x.span(0, 0, 5), 6, askedIs(63));
        takes("17 span() without LINES: all", house, x -> x.span(5, 0, 2), 3, askedIs(7));
        takes("17 span() of one NEAR both", house, x -> x.span(0, 0, 2), 4, askedIs(15));
        takes("17 span() in a FORM of 3", x -> x.form(0, 3), x -> x.span(0, 0, 1), 4, askedIs(bits(0, 1, 2, 3)));
    }

    /** 18: "Whether a POINT is REGULAR: 1, 0. BAD; NOTHING; BEYOND; STATE: no t. (STATE behind these.)" */
    private static void regular18() {
        Setting house = Edges::house;
        finds("18 regular(4, 0)", house, x -> x.regular(4, 0), NOTHING);
        for (int p : of(-1, 12, 13, 45, 64, LEAST, MOST)) {
            finds("18 regular(1, " + p + ")", house, x -> x.regular(1, p), BEYOND);
            finds("18 regular(5, " + p + "): BEYOND ahead of STATE", house, x -> x.regular(5, p), BEYOND);
        }
        takes("18 regular(1, 0)", house, x -> x.regular(1, 0), 1);
        takes("18 regular(1, 11)", house, x -> x.regular(1, 11), 1);
        refuses("18 regular(5, 0): no LINES", house, x -> x.regular(5, 0), STATE);
        refuses("18 regular(0, 5): t not alike", house, x -> x.regular(0, 5), STATE);
        finds("18 regular(0, 6): t not alike, no such POINT", house, x -> x.regular(0, 6), BEYOND);
        takes("18 regular() where s is not alike, but t", house, x -> x.regular(1, 5), 1);
    }

    /** 18: "REGULAR, if SPANS of it and of each POINT not NEAR it have t + 1 POINTS" */
    private static void regularSpans18() {
        int[][] ring = {{0, 1}, {1, 2}, {2, 3}, {3, 0}};
        takes("18 regular(): t + 1", x -> tell(x, 0, 4, ring), x -> x.regular(0, 3), 1);
        int[][] twice = {{0, 1}, {1, 2}, {2, 3}, {3, 0}, {0, 1}, {1, 2}, {2, 3}, {3, 0}};
        takes("18 regular(): fewer than t + 1", x -> tell(x, 0, 4, twice), x -> x.regular(0, 0), 0);
        takes("18 regular(): fewer, POINT 0 alone not NEAR", x -> tell(x, 0, 4, twice), x -> x.regular(0, 2), 0);
        takes("18 regular(): fewer, the last POINT alone not NEAR", x -> tell(x, 0, 4, twice), x -> x.regular(0, 1), 0);
        takes("18 regular(): more than t + 1", x -> tell(x, 0, 4, of(0, 1), of(2, 3)), x -> x.regular(0, 0), 0);
        takes("18 regular(): none that is not NEAR", x -> tell(x, 0, 3, of(0, 1, 2)), x -> x.regular(0, 0), 1);
        int[][] two = {{0, 1}, {1, 2}, {2, 3}, {3, 0}, {4, 5}, {5, 6}, {6, 7}, {7, 4}};
        takes("18 regular(): the first one fits, a later one does not", x -> tell(x, 0, 8, two), x -> x.regular(0, 0), 0);
        takes("18 regular(): the last one fits, an earlier one does not", x -> tell(x, 0, 8, two), x -> x.regular(0, 7), 0);
        takes("18 regular() in a FORM of 3", x -> x.form(0, 3), x -> x.regular(0, 39), 1);
        Setting turned = x -> {
            x.form(0, 3);
            x.dual(0, 0);
        };
        takes("18 regular() in a FORM of 3, turned", turned, x -> x.regular(0, 39), 0);
    }

    /** 19: "CENTRES of three POINTS (perhaps alike). BAD; NOTHING; BEYOND." */
    private static void centres19() {
        Setting house = Edges::house;
        finds("19 centres(4, 0, 1, 2)", house, x -> x.centres(4, 0, 1, 2), NOTHING);
        for (int p : of(-1, 12, 13, 45, 64, LEAST, MOST)) {
            finds("19 centres(1, " + p + ", 0, 0)", house, x -> x.centres(1, p, 0, 0), BEYOND);
            finds("19 centres(1, 0, " + p + ", 0)", house, x -> x.centres(1, 0, p, 0), BEYOND);
            finds("19 centres(1, 0, 0, " + p + ")", house, x -> x.centres(1, 0, 0, p), BEYOND);
        }
        takes("19 centres() of alike ones", house, x -> x.centres(1, 11, 11, 11), 6);
        takes("19 centres() of two alike", house, x -> x.centres(1, 0, 11, 0), 2);
        takes("19 centres() of the other two alike", house, x -> x.centres(1, 0, 11, 11), 2);
        takes("19 centres() on a LINE", house, x -> x.centres(1, 0, 1, 3), 4);
        takes("19 centres() of none", house, x -> x.centres(1, 0, 5, 10), 0);
        takes("19 centres() by the last one alone", house, x -> x.centres(1, 0, 0, 5), 2);
        takes("19 centres() on no LINE", house, x -> x.centres(0, 5, 5, 5), 1);
        takes("19 centres() in a FORM", house, x -> x.centres(2, 0, 5, 9), 1);
    }

    /** 20: "AN OVOID by n TRIES (1 .. 100000)": n and SPENT on both sides of the TRIES that it takes. */
    private static void ovoidTries20() {
        Setting house = Edges::house;
        for (int n : NO_TRIES) {
            refuses("20 ovoid(2, " + n + ")", house, x -> x.ovoid(2, n), BAD);
        }
        finds("20 ovoid(4, 1)", house, x -> x.ovoid(4, 1), NOTHING);
        takes("20 ovoid(2, 100000)", house, x -> x.ovoid(2, 100000), 5, askedIs(17475), triesAre(6));
        takes("20 ovoid(2, 7)", house, x -> x.ovoid(2, 7), 5, askedIs(17475), triesAre(6));
        takes("20 ovoid(2, 6)", house, x -> x.ovoid(2, 6), 5, askedIs(17475), triesAre(6));
        spends("20 ovoid(2, 5)", house, x -> x.ovoid(2, 5), 5);
        spends("20 ovoid(2, 1)", house, x -> x.ovoid(2, 1), 1);
        takes("20 ovoid() by one TRY", x -> tell(x, 0, 3, of(1, 2)), x -> x.ovoid(0, 1), 1, askedIs(2), triesAre(1));
        takes("20 ovoid() without LINES, without a TRY", house, x -> x.ovoid(5, 1), 0, askedIs(0), triesAre(0));
    }

    /** 20: "the least LINE that is not met yet; of its POINTS that are NEAR to none taken so far, the least first, each a TRY; ... back" */
    private static void ovoidSeeking20() {
        takes("20 ovoid(): the least POINT first", x -> tell(x, 0, 4, of(3, 1), of(2, 0)), x -> x.ovoid(0, 9), 2, askedIs(bits(0, 1)), triesAre(2));
        takes("20 ovoid(): a LINE that is met is passed by", x -> tell(x, 0, 4, of(0, 1), of(0, 2), of(2, 3)), x -> x.ovoid(0, 9), 2,
            askedIs(bits(0, 3)), triesAre(2));
        takes("20 ovoid(): NEAR ones are no TRY", x -> tell(x, 0, 5, of(0, 1), of(2, 3, 4), of(0, 2), of(0, 3)), x -> x.ovoid(0, 9), 2,
            askedIs(bits(0, 4)), triesAre(2));
        Setting back = x -> tell(x, 0, 5, of(0, 1), of(2, 3), of(0, 2), of(0, 3, 4));
        takes("20 ovoid(): back, where there is none", back, x -> x.ovoid(0, 4), 3, askedIs(bits(1, 2, 4)), triesAre(4));
        spends("20 ovoid(): back, one TRY less", back, x -> x.ovoid(0, 3), 3);
        takes("20 ovoid(): LINES that are alike", x -> tellAlike(x, 0, 2, 45), x -> x.ovoid(0, 1), 1, askedIs(1), triesAre(1));
        takes("20 ovoid(): the greatest GRID", x -> x.grid(0, 6, 6), x -> x.ovoid(0, 6), 6, askedIs(bits(0, 7, 14, 21, 28, 35)), triesAre(6));
        spends("20 ovoid(): the greatest GRID, one TRY less", x -> x.grid(0, 6, 6), x -> x.ovoid(0, 5), 5);
        takes("20 ovoid(): 22 pairs", x -> pairs(x, 0, 22, 1, false), x -> x.ovoid(0, 22), 22, askedIs(0x55555555555L), triesAre(22));
    }

    /** 45 POINTS, 44 LINES, all through the last POINT. */
    private static void star(QuadWorlds x) {
        x.world(0, 45);
        for (int p = 0; p < 44; p++) {
            row(x, 3, p, 44);
            x.line(0, 3);
        }
    }

    /** 20, 21, 22: the most that an OVOID can have; a SPENT search leaves nothing to the next one. */
    private static void longestSearches() {
        takes("20 ovoid() of a star", EdgeSetsTest::star, x -> x.ovoid(0, 44), 44, askedIs((1L << 44) - 1), triesAre(44));
        spends("20 ovoid() of a star, one TRY less", EdgeSetsTest::star, x -> x.ovoid(0, 43), 43);
        takes("22 ovoids() of a star", EdgeSetsTest::star, x -> x.ovoids(0, 45), 1, askedIs(2), triesAre(45));
        spends("22 ovoids() of a star, one TRY less", EdgeSetsTest::star, x -> x.ovoids(0, 44), 44);
        Setting spent = x -> {
            house(x);
            x.ovoids(2, 20);
            x.alike(2, 2, 10);
        };
        takes("20 ovoid() behind SPENT ones", spent, x -> x.ovoid(2, 6), 5, askedIs(17475), triesAre(6));
        takes("21 spread() behind SPENT ones", spent, x -> x.spread(2, 5), 5, askedIs(12561), triesAre(5));
        takes("22 ovoids() behind SPENT ones", spent, x -> x.ovoids(2, 32), 1, askedIs(6), triesAre(32));
        takes("26 alike() behind SPENT ones", spent, x -> x.alike(2, 2, 15), 1, triesAre(15), sentTo(14, 14));
        takes("20 ovoid() of NONE behind SPENT ones", spent, x -> x.ovoid(1, 40), NONE, triesAre(40));
        takes("26 alike() of 0 behind SPENT ones", spent, x -> x.alike(1, 2, 1), 0, triesAre(0));
    }

    /** 20: "NONE: there is none": by all TRIES that there are, not by one less. */
    private static void ovoidNone20() {
        Setting ring = x -> {
            house(x);
            tell(x, 0, 3, of(0, 1), of(1, 2), of(2, 0));
        };
        takes("20 ovoid() of a ring of 3", ring, x -> x.ovoid(0, 2), NONE, triesAre(2), askedIs(bits(6, 9, 12)));
        takes("20 ovoid() of a ring of 3 by more", ring, x -> x.ovoid(0, 3), NONE, triesAre(2), askedIs(bits(6, 9, 12)));
        spends("20 ovoid() of a ring of 3 by one less", ring, x -> x.ovoid(0, 1), 1);
        Setting unlike = x -> x.grid(0, 3, 2);
        takes("20 ovoid() of a GRID of 3 by 2", unlike, x -> x.ovoid(0, 4), NONE, triesAre(4), askedIs(0));
        spends("20 ovoid() of a GRID of 3 by 2, one less", unlike, x -> x.ovoid(0, 3), 3);
        Setting three = x -> x.form(0, 3);
        takes("20 ovoid() of a FORM of 3", three, x -> x.ovoid(0, 530), NONE, triesAre(530));
        spends("20 ovoid() of a FORM of 3, one less", three, x -> x.ovoid(0, 529), 529);
    }

    /** 21: "A SPREAD likewise: how many LINES. BAD; SPENT; NOTHING." */
    private static void spreadTries21() {
        Setting house = Edges::house;
        for (int n : NO_TRIES) {
            refuses("21 spread(2, " + n + ")", house, x -> x.spread(2, n), BAD);
        }
        finds("21 spread(4, 1)", house, x -> x.spread(4, 1), NOTHING);
        takes("21 spread(2, 100000)", house, x -> x.spread(2, 100000), 5, askedIs(12561), triesAre(5));
        takes("21 spread(2, 5)", house, x -> x.spread(2, 5), 5, askedIs(12561), triesAre(5));
        spends("21 spread(2, 4)", house, x -> x.spread(2, 4), 4);
        spends("21 spread(2, 1)", house, x -> x.spread(2, 1), 1);
        takes("21 spread() by one TRY", x -> tell(x, 0, 2, of(0, 1)), x -> x.spread(0, 1), 1, askedIs(1), triesAre(1));
        takes("21 spread() without LINES: NONE, without a TRY", house, x -> x.spread(5, 1), NONE, triesAre(0), askedIs(bits(6, 9, 12)));
        takes("21 spread(), a POINT on no LINE", x -> tell(x, 0, 3, of(0, 1)), x -> x.spread(0, 1), NONE, triesAre(1));
        takes("21 spread(), the first POINT on no LINE", x -> tell(x, 0, 3, of(1, 2)), x -> x.spread(0, 1), NONE, triesAre(0));
    }

    /** 21: "(POINT) that is not met yet; of its (LINES through it) that (meet none) taken so far, the least first, each a TRY; ... back" */
    private static void spreadSeeking21() {
        takes("21 spread(): the least LINE first", x -> tell(x, 0, 4, of(2, 3), of(0, 1), of(0, 1)), x -> x.spread(0, 9), 2,
            askedIs(bits(0, 1)), triesAre(2));
        takes("21 spread(): LINES that meet one are no TRY", x -> tell(x, 0, 4, of(0, 1), of(1, 2), of(2, 3)), x -> x.spread(0, 2), 2,
            askedIs(bits(0, 2)), triesAre(2));
        Setting back = x -> tell(x, 0, 4, of(0, 1), of(0, 3), of(1, 2));
        takes("21 spread(): back, where there is none", back, x -> x.spread(0, 3), 2, askedIs(bits(1, 2)), triesAre(3));
        spends("21 spread(): back, one TRY less", back, x -> x.spread(0, 2), 2);
        Setting ring = x -> tell(x, 0, 3, of(0, 1), of(1, 2), of(2, 0));
        takes("21 spread() of a ring of 3", ring, x -> x.spread(0, 2), NONE, triesAre(2));
        spends("21 spread() of a ring of 3, one TRY less", ring, x -> x.spread(0, 1), 1);
        takes("21 spread(): the last LINE of 45", x -> {
            tellAlike(x, 0, 4, 44);
            row(x, 3, 2, 3);
            x.line(0, 3);
        }, x -> x.spread(0, 2), 2, askedIs(bits(0, 44)), triesAre(2));
        takes("21 spread(): 22 pairs", x -> pairs(x, 0, 22, 1, false), x -> x.spread(0, 22), 22, askedIs((1L << 22) - 1), triesAre(22));
    }

    /** 22: "How many OVOIDS there are, told by asked(): 1. BAD; SPENT; NOTHING." */
    private static void ovoids22() {
        Setting house = Edges::house;
        for (int n : NO_TRIES) {
            refuses("22 ovoids(2, " + n + ")", house, x -> x.ovoids(2, n), BAD);
        }
        finds("22 ovoids(4, 1)", house, x -> x.ovoids(4, 1), NOTHING);
        takes("22 ovoids(2, 100000)", house, x -> x.ovoids(2, 100000), 1, askedIs(6), triesAre(32));
        takes("22 ovoids(2, 32)", house, x -> x.ovoids(2, 32), 1, askedIs(6), triesAre(32));
        spends("22 ovoids(2, 31)", house, x -> x.ovoids(2, 31), 31);
        spends("22 ovoids(2, 1)", house, x -> x.ovoids(2, 1), 1);
        takes("22 ovoids(5, 1) without LINES: one of no POINT", house, x -> x.ovoids(5, 1), 1, askedIs(1), triesAre(0));
        takes("22 ovoids() where there is none: 1, told 0", x -> x.grid(0, 2, 3), x -> x.ovoids(0, 9), 1, askedIs(0), triesAre(3 + 6));
        spends("22 ovoids() where there is none, one TRY less", x -> x.grid(0, 2, 3), x -> x.ovoids(0, 8), 8);
        takes("22 ovoids() of a GRID of 3 by 2", x -> x.grid(0, 3, 2), x -> x.ovoids(0, 4), 1, askedIs(0), triesAre(4));
        takes("22 ovoids() of one LINE", x -> tell(x, 0, 4, of(1, 2, 3)), x -> x.ovoids(0, 3), 1, askedIs(3), triesAre(3));
        spends("22 ovoids() of one LINE, one TRY less", x -> tell(x, 0, 4, of(1, 2, 3)), x -> x.ovoids(0, 2), 2);
        takes("22 ovoids() of the greatest GRID", x -> x.grid(0, 6, 6), x -> x.ovoids(0, 1956), 1, askedIs(720), triesAre(1956));
        spends("22 ovoids() of the greatest GRID, one TRY less", x -> x.grid(0, 6, 6), x -> x.ovoids(0, 1955), 1955);
    }

    /** 20, 21, 22, 26: "n TRIES (1 .. 100000)": searches that take more than all of them, and such that take nearly all. */
    private static void mostTries() {
        Setting most = x -> pairs(x, 0, 15, 1, false);
        takes("22 ovoids() of 15 pairs", most, x -> x.ovoids(0, 65534), 1, askedIs(32768), triesAre(65534));
        takes("22 ovoids() of 15 pairs by all TRIES", most, x -> x.ovoids(0, 100000), 1, askedIs(32768), triesAre(65534));
        spends("22 ovoids() of 15 pairs, one TRY less", most, x -> x.ovoids(0, 65533), 65533);
        spends("22 ovoids() of 16 pairs by all TRIES", x -> pairs(x, 0, 16, 1, false), x -> x.ovoids(0, 100000), 100000);
        spends("22 ovoids() of 22 pairs by all TRIES", x -> pairs(x, 0, 22, 1, false), x -> x.ovoids(0, 100000), 100000);
        Setting ring = x -> pairs(x, 0, 14, 1, true);
        takes("20 ovoid() of 14 pairs and a ring", ring, x -> x.ovoid(0, 65534), NONE, triesAre(65534));
        spends("20 ovoid() of 14 pairs and a ring, one TRY less", ring, x -> x.ovoid(0, 65533), 65533);
        spends("20 ovoid() of 15 pairs and a ring by all TRIES", x -> pairs(x, 0, 15, 1, true), x -> x.ovoid(0, 100000), 100000);
        Setting twice = x -> pairs(x, 0, 14, 2, true);
        takes("21 spread() of 14 pairs twice and a ring", twice, x -> x.spread(0, 65534), NONE, triesAre(65534));
        spends("21 spread() of 14 pairs twice and a ring, one TRY less", twice, x -> x.spread(0, 65533), 65533);
        spends("21 spread() of 15 pairs twice and a ring by all TRIES", x -> pairs(x, 0, 15, 2, true), x -> x.spread(0, 100000), 100000);
        Setting seven = x -> {
            rings(x, 0, 7, 7);
            rings(x, 1, 7, 3);
        };
        int sevenTries = 7 + 42 + 210 + 840 + 2520 + 5040 + 5040;
        takes("26 alike() of rings of 7 and of 3 and 4", seven, x -> x.alike(0, 1, sevenTries), 0, triesAre(sevenTries));
        spends("26 alike() of rings of 7 and of 3 and 4, one TRY less", seven, x -> x.alike(0, 1, sevenTries - 1), sevenTries - 1);
        spends("26 alike() of rings of 8 and of 3 and 5 by all TRIES", x -> {
            rings(x, 0, 8, 8);
            rings(x, 1, 8, 3);
        }, x -> x.alike(0, 1, 100000), 100000);
    }

    /** A ring of the first POINTS, one of the rest, and a LINE of all, so that all are NEAR and on three LINES. */
    private static void rings(QuadWorlds x, int w, int p, int first) {
        x.world(w, p);
        x.row(3, p);
        for (int i = 0; i < p; i++) {
            x.lay(3, i, i);
        }
        x.line(w, 3);
        for (int i = 0; i < p; i++) {
            row(x, 3, i, i < first ? (i + 1) % first : first + (i - first + 1) % (p - first));
            x.line(w, 3);
        }
        x.tear(3);
    }

    /** 23: "TRIES of the latest ovoid(), spread(), ovoids(), alike() ... (n, if it was SPENT); 0 before." */
    private static void tries23() {
        Setting house = Edges::house;
        takes("23 tries() before", Edges::none, x -> x.tries(), 0);
        takes("23 of ovoid()", house, x -> x.ovoid(0, 9), 3, triesAre(3));
        takes("23 of ovoid() of NONE", house, x -> x.ovoid(1, 999), NONE, triesAre(4 + 12 + 24));
        takes("23 of spread()", house, x -> x.spread(1, 9), 3, triesAre(3));
        takes("23 of spread() of NONE", house, x -> x.spread(5, 9), NONE, triesAre(0));
        takes("23 of ovoids()", house, x -> x.ovoids(2, 99), 1, triesAre(32));
        takes("23 of alike()", house, x -> x.alike(1, 1, 99), 1, triesAre(12));
        takes("23 of alike() of 0", house, x -> x.alike(0, 3, 99), 0, triesAre(0));
        spends("23 of a SPENT ovoid()", house, x -> x.ovoid(2, 3), 3);
        spends("23 of a SPENT spread()", house, x -> x.spread(2, 2), 2);
        spends("23 of SPENT ovoids()", house, x -> x.ovoids(2, 30), 30);
        spends("23 of a SPENT alike()", house, x -> x.alike(2, 2, 14), 14);
    }

    /** 23: "... that was not BAD nor refused with a FINDING" */
    private static void triesStay23() {
        Setting house = Edges::house;
        refuses("23 behind a BAD ovoid()", house, x -> x.ovoid(2, 0), BAD);
        refuses("23 behind a BAD spread()", house, x -> x.spread(2, 0), BAD);
        refuses("23 behind BAD ovoids()", house, x -> x.ovoids(2, 0), BAD);
        refuses("23 behind a BAD alike()", house, x -> x.alike(2, 2, 0), BAD);
        finds("23 behind an ovoid() of NOTHING", house, x -> x.ovoid(4, 9), NOTHING);
        finds("23 behind a spread() of NOTHING", house, x -> x.spread(4, 9), NOTHING);
        finds("23 behind ovoids() of NOTHING", house, x -> x.ovoids(4, 9), NOTHING);
        finds("23 behind an alike() of NOTHING", house, x -> x.alike(2, 4, 9), NOTHING);
        takes("23 behind other calls", house, x -> x.rank(2, 2), 10, triesAre(5), look("drop(2)", x -> x.drop(2), 1), triesAre(5));
    }

    /** 24: "How many POINTS a set has on each LINE: the least (most: the greatest). BAD: also bits beyond P (behind NOTHING); NOTHING; NOUGHT." */
    private static void meets24() {
        Setting house = Edges::house;
        for (boolean most : new boolean[] {false, true}) {
            finds("24 meets(4, 0, " + most + ")", house, x -> x.meets(4, 0, most), NOTHING);
            finds("24 meets(4, -1, " + most + "): NOTHING ahead of bits", house, x -> x.meets(4, -1, most), NOTHING);
            finds("24 meets(5, 7, " + most + ") without LINES", house, x -> x.meets(5, 7, most), NOUGHT);
            finds("24 meets(5, 0, " + most + ") without LINES", house, x -> x.meets(5, 0, most), NOUGHT);
            refuses("24 meets(5, 8, " + most + ") without LINES, a bit beyond", house, x -> x.meets(5, 8, most), BAD);
            for (int bit : of(12, 13, 31, 32, 45, 63)) {
                refuses("24 meets() with bit " + bit + " of 12, " + most, house, x -> x.meets(1, bits(0, bit), most), BAD);
            }
            refuses("24 meets() of all bits, " + most, house, x -> x.meets(1, -1, most), BAD);
            takes("24 meets() of no POINT, " + most, house, x -> x.meets(1, 0, most), 0);
            takes("24 meets() with bit P - 1, " + most, house, x -> x.meets(1, bits(11), most), most ? 1 : 0);
            takes("24 meets() of all, " + most, house, x -> x.meets(1, 4095, most), most ? 4 : 3);
            takes("24 meets() of all but one, " + most, house, x -> x.meets(1, 4094, most), most ? 4 : 2);
            takes("24 meets() of an OVOID, " + most, house, x -> x.meets(2, 17475, most), 1);
            takes("24 meets() of the last LINE alone, " + most, house, x -> x.meets(0, bits(3, 4), most), most ? 2 : 0);
            takes("24 meets() of 45, " + most, x -> tell(x, 0, 45, of(0, 44), of(43, 44)), x -> x.meets(0, bits(0, 44), most), most ? 2 : 1);
            refuses("24 meets() with bit 45 of 45, " + most, x -> tell(x, 0, 45, of(0, 44)), x -> x.meets(0, bits(45), most), BAD);
        }
    }

    /** 25: "RANK by r. BAD; NOTHING." (2, 3, 5) */
    private static void rank25() {
        Setting house = Edges::house;
        for (int r : of(1, 4, 6, 0, 7, -2, -3, -5, LEAST, MOST)) {
            refuses("25 rank(2, " + r + ")", house, x -> x.rank(2, r), BAD);
            refuses("25 rank(4, " + r + ")", house, x -> x.rank(4, r), BAD);
        }
        for (int r : of(2, 3, 5)) {
            finds("25 rank(4, " + r + ")", house, x -> x.rank(4, r), NOTHING);
            takes("25 rank(5, " + r + ") without LINES", house, x -> x.rank(5, r), 0);
            takes("25 rank(2, " + r + ")", house, x -> x.rank(2, r), 10);
            takes("25 rank(1, " + r + ")", house, x -> x.rank(1, r), 6);
            takes("25 rank(0, " + r + ")", house, x -> x.rank(0, r), 3);
            takes("25 rank() of 45 LINES that are alike", x -> tellAlike(x, 0, 45, 45), x -> x.rank(0, r), 1);
            takes("25 rank() of 22 pairs", x -> pairs(x, 0, 22, 1, false), x -> x.rank(0, r), 22);
        }
    }

    /** 25: "of the rows of LINES (1 for a POINT on it, else 0) by r": where the primes tell otherwise. */
    private static void rankPrimes25() {
        int[][] due = {{3, 2, 3, 3}, {4, 4, 3, 4}, {6, 6, 6, 5}, {5, 4, 5, 5}, {7, 6, 6, 7}};
        for (int[] d : due) {
            for (int i = 0; i < 3; i++) {
                int r = of(2, 3, 5)[i];
                takes("25 rank() by " + r + " of all but one of " + d[0], x -> allButOne(x, d[0]), x -> x.rank(0, r), d[i + 1]);
            }
        }
        takes("25 rank() of a FORM of 3 by 2", x -> x.form(0, 3), x -> x.rank(0, 2), 25);
        takes("25 rank() of a FORM of 3 by 3", x -> x.form(0, 3), x -> x.rank(0, 3), 25);
        takes("25 rank() of a FORM of 3 by 5", x -> x.form(0, 3), x -> x.rank(0, 5), 25);
    }

    private static void allButOne(QuadWorlds x, int p) {
        x.world(0, p);
        for (int out = 0; out < p; out++) {
            x.row(3, p);
            for (int i = 0; i < p; i++) {
                x.lay(3, i, i == out ? (out + 1) % p : i);
            }
            x.line(0, 3);
        }
    }

    /** 26: "Whether two WORLDS are ALIKE by n TRIES: 1, 0. BAD; SPENT; NOTHING: either." */
    private static void alikeTries26() {
        Setting house = Edges::house;
        for (int n : NO_TRIES) {
            refuses("26 alike(2, 2, " + n + ")", house, x -> x.alike(2, 2, n), BAD);
        }
        finds("26 alike(4, 2, 9)", house, x -> x.alike(4, 2, 9), NOTHING);
        finds("26 alike(2, 4, 9)", house, x -> x.alike(2, 4, 9), NOTHING);
        finds("26 alike(4, 4, 9)", house, x -> x.alike(4, 4, 9), NOTHING);
        takes("26 alike(2, 2, 100000)", house, x -> x.alike(2, 2, 100000), 1, triesAre(15), sentTo(14, 14));
        takes("26 alike(2, 2, 15)", house, x -> x.alike(2, 2, 15), 1, triesAre(15));
        spends("26 alike(2, 2, 14)", house, x -> x.alike(2, 2, 14), 14);
        spends("26 alike(2, 2, 1)", house, x -> x.alike(2, 2, 1), 1);
        Setting grids = x -> {
            x.grid(0, 3, 4);
            x.grid(1, 4, 3);
        };
        takes("26 alike() of turned GRIDS", grids, x -> x.alike(0, 1, 16), 1, triesAre(16), sentTo(0, 0), sentTo(1, 3), sentTo(4, 1), sentTo(11, 11));
        spends("26 alike() of turned GRIDS, one TRY less", grids, x -> x.alike(0, 1, 15), 15);
        Setting bare = x -> {
            x.world(0, 2);
            x.world(1, 2);
        };
        takes("26 alike() without LINES", bare, x -> x.alike(0, 1, 2), 1, triesAre(2), sentTo(0, 0), sentTo(1, 1));
        spends("26 alike() without LINES, one TRY less", bare, x -> x.alike(0, 1, 1), 1);
        takes("26 alike() of 45 POINTS", x -> x.world(0, 45), x -> x.alike(0, 0, 45), 1, triesAre(45), sentTo(44, 44));
        spends("26 alike() of 45 POINTS, one TRY less", x -> x.world(0, 45), x -> x.alike(0, 0, 44), 44);
    }

    /** 26: "(unlike numbers of POINTS, or of LINES: 0, without a TRY)" */
    private static void alikeWithout26() {
        Setting house = Edges::house;
        takes("26 alike(): unlike POINTS and LINES", house, x -> x.alike(1, 2, 1), 0, triesAre(0), sentTo(1, 3));
        Setting points = x -> {
            x.world(0, 4);
            x.world(1, 5);
        };
        takes("26 alike(): fewer POINTS", points, x -> x.alike(0, 1, 1), 0, triesAre(0));
        takes("26 alike(): more POINTS", points, x -> x.alike(1, 0, 1), 0, triesAre(0));
        Setting lines = x -> {
            tellAlike(x, 0, 4, 2);
            tellAlike(x, 1, 4, 3);
            tellAlike(x, 2, 4, 3);
        };
        takes("26 alike(): fewer LINES", lines, x -> x.alike(0, 1, 1), 0, triesAre(0));
        takes("26 alike(): more LINES", lines, x -> x.alike(1, 0, 1), 0, triesAre(0));
        takes("26 alike(): as many of both", lines, x -> x.alike(1, 2, 4), 1, triesAre(4));
    }

    /** 26: "the least first, each a TRY, if it is on as many LINES, and NEAR to those ones exactly ... (one that does not fit so is no TRY)" */
    private static void alikeFits26() {
        Setting way = x -> {
            tell(x, 0, 4, of(0, 1), of(1, 2), of(2, 3));
            tell(x, 1, 4, of(0, 1), of(0, 2), of(0, 3));
        };
        takes("26 alike(): a way and a star", way, x -> x.alike(0, 1, 3), 0, triesAre(3));
        spends("26 alike(): a way and a star, one TRY less", way, x -> x.alike(0, 1, 2), 2);
        takes("26 alike(): a star and a way, none fits", way, x -> x.alike(1, 0, 1), 0, triesAre(0));
        Setting turned = x -> {
            tell(x, 0, 4, of(0, 1), of(2, 3));
            tell(x, 1, 4, of(0, 2), of(1, 3));
        };
        takes("26 alike(): NEAR to NEAR, others to others", turned, x -> x.alike(0, 1, 4), 1, triesAre(4),
            sentTo(0, 0), sentTo(1, 2), sentTo(2, 1), sentTo(3, 3));
        spends("26 alike(): NEAR to NEAR, one TRY less", turned, x -> x.alike(0, 1, 3), 3);
        Setting lone = x -> {
            tell(x, 0, 3, of(0, 1));
            tell(x, 1, 3, of(1, 2));
        };
        takes("26 alike(): on as many LINES", lone, x -> x.alike(0, 1, 3), 1, triesAre(3), sentTo(0, 1), sentTo(1, 2), sentTo(2, 0));
        Setting kinds = x -> {
            x.grid(0, 2, 2);
            tell(x, 1, 4, of(0, 1), of(1, 2), of(2, 3), of(3, 0));
        };
        takes("26 alike(): of unlike KINDS", kinds, x -> x.alike(0, 1, 100), 1, sentTo(0, 0), sentTo(3, 2));
    }

    /** 26: "so that LINES become LINES, each once"; "behind the last POINT: if all LINES become LINES". */
    private static void alikeLines26() {
        Setting ring = x -> {
            tell(x, 0, 4, of(0, 1), of(0, 1), of(2, 3), of(2, 3), of(0, 1, 2, 3));
            tell(x, 1, 4, of(0, 1), of(1, 2), of(2, 3), of(0, 3), of(0, 1, 2, 3));
        };
        takes("26 alike(): pairs twice and a ring", ring, x -> x.alike(0, 1, 64), 0, triesAre(64));
        spends("26 alike(): pairs twice and a ring, one TRY less", ring, x -> x.alike(0, 1, 63), 63);
        takes("26 alike(): a ring and pairs twice", ring, x -> x.alike(1, 0, 64), 0, triesAre(64));
        Setting order = x -> {
            tell(x, 0, 4, of(0, 1, 2, 3), of(0, 1), of(2, 3), of(0, 1));
            tell(x, 1, 4, of(2, 3), of(0, 1), of(2, 3), of(0, 1, 2, 3));
        };
        takes("26 alike(): LINES in another order, one twice", order, x -> x.alike(0, 1, 100), 1,
            sentTo(0, 2), sentTo(1, 3), sentTo(2, 0), sentTo(3, 1));
        Setting once = x -> {
            tell(x, 0, 6, of(0, 1, 2, 3, 4, 5), of(0, 1), of(0, 1), of(2, 3), of(4, 5), of(2, 4), of(3, 5));
            tell(x, 1, 6, of(0, 1, 2, 3, 4, 5), of(0, 1), of(0, 1), of(2, 3), of(4, 5), of(2, 3), of(4, 5));
        };
        int all = 6 + 30 + 120 + 360 + 720 + 720;
        takes("26 alike(): all become some, not each once", once, x -> x.alike(1, 0, all), 0, triesAre(all));
        takes("26 alike(): not all become some", once, x -> x.alike(0, 1, all), 0, triesAre(all));
    }

    /** 27: "Where POINT p was sent by the latest alike() that was 1; NONE: there was none, no such POINT." */
    private static void sent27() {
        for (int p : of(0, 1, 44, -1, 45, LEAST, MOST)) {
            takes("27 sent(" + p + ") before", Edges::none, x -> x.sent(p), NONE);
        }
        Setting house = Edges::house;
        int[] due = {0, 3, 6, 9, 1, 4, 7, 10, 2, 5, 8, 11};
        for (int p = 0; p < due.length; p++) {
            int at = p;
            takes("27 sent(" + p + ")", house, x -> x.sent(at), due[p]);
        }
        for (int p : of(-1, 12, 13, 44, 45, LEAST, MOST)) {
            takes("27 sent(" + p + ")", house, x -> x.sent(p), NONE);
        }
        takes("27 sent(2) behind one of fewer POINTS", house, x -> x.alike(5, 5, 9), 1, sentTo(0, 0), sentTo(2, 2), sentTo(3, NONE));
        takes("27 sent(14) behind one of more POINTS", house, x -> x.alike(2, 2, 99), 1, sentTo(1, 1), sentTo(14, 14), sentTo(15, NONE));
        Setting large = x -> {
            x.world(0, 45);
            x.alike(0, 0, 45);
        };
        takes("27 sent(44) of 45", large, x -> x.sent(44), 44, sentTo(45, NONE));
    }

    /** 27: "the latest alike() that was 1": not one that was 0, SPENT or refused. */
    private static void sentStays27() {
        Setting house = Edges::house;
        takes("27 behind an alike() of 0", house, x -> x.alike(0, 3, 9), 0, sentTo(1, 3), sentTo(11, 11), sentTo(12, NONE));
        Setting ring = x -> {
            house(x);
            tell(x, 4, 4, of(0, 1), of(0, 1), of(2, 3), of(2, 3), of(0, 1, 2, 3));
            tell(x, 5, 4, of(0, 1), of(1, 2), of(2, 3), of(0, 3), of(0, 1, 2, 3));
        };
        takes("27 behind an alike() of 0 that sent all", ring, x -> x.alike(4, 5, 99), 0, sentTo(0, 0), sentTo(1, 3), sentTo(3, 9));
        spends("27 behind a SPENT alike()", house, x -> x.alike(2, 2, 14), 14);
        refuses("27 behind a BAD alike()", house, x -> x.alike(2, 2, 0), BAD);
        finds("27 behind an alike() of NOTHING", house, x -> x.alike(4, 2, 99), NOTHING);
        takes("27 behind drop() of both", house, x -> x.drop(1), 1, sentTo(1, 3));
        takes("27 behind ovoids()", house, x -> x.ovoids(2, 99), 1, sentTo(1, 3));
    }

    /** 28: "How many steps by LINES from a POINT to another one (0: alike); NONE: none lead there. BAD; NOTHING; BEYOND." */
    private static void far28() {
        Setting house = Edges::house;
        finds("28 far(4, 0, 1)", house, x -> x.far(4, 0, 1), NOTHING);
        for (int p : of(-1, 6, 7, 45, 64, LEAST, MOST)) {
            finds("28 far(0, " + p + ", 0)", house, x -> x.far(0, p, 0), BEYOND);
            finds("28 far(0, 0, " + p + ")", house, x -> x.far(0, 0, p), BEYOND);
            finds("28 far(0, " + p + ", " + p + ")", house, x -> x.far(0, p, p), BEYOND);
        }
        int[] due = {0, 1, 2, 2, 3, NONE};
        for (int p = 0; p < 6; p++) {
            int at = p;
            takes("28 far(0, 0, " + p + ")", house, x -> x.far(0, 0, at), due[p]);
            takes("28 far(0, " + p + ", 0)", house, x -> x.far(0, at, 0), due[p]);
            takes("28 far(0, " + p + ", " + p + ")", house, x -> x.far(0, at, at), 0);
        }
        takes("28 far(5, 0, 2) without LINES", house, x -> x.far(5, 0, 2), NONE);
        takes("28 far(5, 2, 2) without LINES", house, x -> x.far(5, 2, 2), 0);
        Setting way = x -> {
            x.world(0, 45);
            for (int p = 0; p < 44; p++) {
                row(x, 3, p, p + 1);
                x.line(0, 3);
            }
        };
        takes("28 far() from end to end", way, x -> x.far(0, 0, 44), 44);
        takes("28 far() to one short of the end", way, x -> x.far(0, 44, 1), 43);
        takes("28 far() in a part that one does not come out of", x -> pairs(x, 0, 2, 1, false), x -> x.far(0, 0, 3), NONE);
    }
}
