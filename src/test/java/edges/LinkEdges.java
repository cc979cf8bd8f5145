/** The curves that come of joining ends: Terms 3, promises 12 to 16. */
final class LinkEdges {
    private static final long BEYOND = Edge.BEYOND;
    private static final long NONE = Edge.NONE;
    private static final long KIND = Edge.KIND;
    private static final int[] PRIMES = {2, 3, 5, 7, 11, 13};
    /** Three columns of two crossings: three curves, each linked with both others. */
    private static final String THREE = "t2+t2+t2";
    /**
     * Twelve columns: of each the strand on one side is over the other one twice, by turns the west and the east one.
     * So six curves are never under, and six are under four times: 30 arcs.
     */
    private static final String OVER = "t(1+-1)+t(-1+1)" + Edge.many("+t(1+-1)+t(-1+1)", 5);
    private static final String[] SIDE_ACTS = {"link(0, #, 0)", "link(0, #, 4)", "crossing(0, #, 0, 0)", "linked(0, #, 0, 1)",
        "gauss(0, 0, #, 0)", "colours(0, #, 2)", "name(0, #, 0)", "alike(0, #, 0, 0)", "alike(0, 0, 0, #)", "enter(0, #)"};

    private LinkEdges() {
    }

    static void run(Edge e) {
        e.section("Terms");
        corners(e);
        nodes(e);
        sides(e);
        signs(e);
        arcsAndColours(e);
        linkPromise(e);
        crossingPromise(e);
        linkedPromise(e);
        gaussPromise(e);
        coloursPromise(e);
    }

    /** All components of a side, in their order, each as its passes; there must be no other. */
    private static void curves(Edge e, String text, int side, long[]... passes) {
        e.another();
        e.hold(0, text);
        e.due("link(0, " + side + ", 0)", passes.length);
        for (int component = 0; component < passes.length; component++) {
            e.due("gauss(0, 0, " + side + ", " + component + ")", passes[component].length);
            e.numbers(0, passes[component]);
        }
        e.due("gauss(0, 0, " + side + ", " + passes.length + ")", NONE);
    }

    private static long[] row(long... numbers) {
        return numbers;
    }

    private static void corners(Edge e) {
        e.sentence("3. Each CROSSING has corners NW, NE, SW, SE; one strand joins NW and SE, one SW and NE; of a LEAF above 0 the strand"
                + " NW SE is over the other, below 0 SW NE.");
        curves(e, "1", 0, row(1, -1));
        curves(e, "-1", 0, row(1, -1));
        curves(e, "1+-1", 0, row(1, 2), row(-1, -2));
        // Turned ones aren't their own image upside down: which strand is over decides where the curve goes on.
        curves(e, "1+t2", 0, row(1, 2, -3, -1, -2, 3));
        curves(e, "-1+t-2", 0, row(1, 3, -2, -1, -3, 2));

        e.sentence("CROSSINGS of a LEAF stand from west to east: NE, SE of each are joined to NW, SW of the next; ENDS of the LEAF:"
                + " NW, SW of the first, NE, SE of the last.");
        curves(e, "2", 0, row(1, -2), row(-1, 2));
        curves(e, "2", 1, row(1, -2, 2, -1));
        curves(e, "3", 0, row(1, -2, 3, -1, 2, -3));
        curves(e, "-3", 0, row(1, -2, 3, -1, 2, -3));

        e.sentence("LEAF 0: NW is joined to NE, SW to SE; i: NW to SW, NE to SE.");
        e.dueEach("link(0, #, 1)", 2, 1);
        e.due("leaf(0, 10)", 0);
        e.dueEach("link(0, #, 1)", 1, 2);
        e.dueEach("link(0, #, 0)", 0, 0);
    }

    private static void nodes(Edge e) {
        e.sentence("x + y: ENDS NE, SE of x are joined to NW, SW of y; the others are its ENDS.");
        curves(e, "1+2", 0, row(1, -2, 3, -1, 2, -3));
        curves(e, "1+1", 1, row(1, -2, 2, -1));
        curves(e, "1+(1+1)", 0, row(1, -2, 3, -1, 2, -3));
        curves(e, "1+(1+(1*1))", 1, row(1, -2, 3, -4, 2, -1), row(-3, 4));
        curves(e, "0+2", 0, row(1, -2), row(-1, 2));
        curves(e, "i+2", 0, row(1, -2, 2, -1));

        e.sentence("x * y: ENDS SW, SE of x are joined to NW, NE of y; the others are its ENDS.");
        curves(e, "1*1", 0, row(1, -2, 2, -1));
        curves(e, "1*1", 1, row(1, -2), row(-1, 2));
        curves(e, "1*2", 1, row(1, -3, 2, -1, 3, -2));
        curves(e, "i*(i*(1*1))", 0, row(1, -2, 2, -1));

        e.sentence("t x: its ENDS NW, SW, SE, NE are NE, NW, SW, SE of x (CROSSINGS keep the names of their corners).");
        curves(e, "t2", 0, row(1, -2, 2, -1));
        curves(e, "t2", 1, row(1, -2), row(-1, 2));
        curves(e, "t2+2", 0, row(1, -2, -4, 3, 2, -1, -3, 4));
        curves(e, "t1+1", 0, row(1, 2), row(-1, -2));
        e.dueEach("crossing(0, 0, #, 2)", 1, -1);

        e.sentence("m x: all is as if each LEAF k in x were -k.");
        curves(e, "m(2+-1)", 0, row(1, -2, -3, -1, 2, 3));
        e.dueEach("crossing(0, 0, #, 2)", -1, -1, 1);
        e.hold(0, "m(m1+2)");
        e.dueEach("crossing(0, 0, #, 2)", 1, -1, -1);
        e.hold(0, "mm(1+2)");
        e.dueEach("crossing(0, 0, #, 2)", 1, 1, 1);
        e.hold(0, "3+m2");
        e.dueEach("crossing(0, 0, #, 2)", 1, 1, 1, -1, -1);
        e.hold(0, "mi+m0");
        e.dueEach("link(0, #, 1)", 1, 2);

        e.sentence("CROSSINGS are numbered 0, 1, .. as their LEAVES stand from the left, of a LEAF from west to east.");
        e.hold(0, "i*2+0+-3*i");
        e.due("slot(0, 1)", 5);
        e.dueEach("crossing(0, 0, #, 2)", 1, 1, -1, -1, -1);
        curves(e, "1*2", 1, row(1, -3, 2, -1, 3, -2));
    }

    private static void sides(Edge e) {
        e.sentence("SIDES: 0: ENDS NW, NE are joined, and SW, SE. 1: NW, SW, and NE, SE.");
        e.due("leaf(0, 2)", 2);
        e.dueEach("link(0, #, 0)", 2, 1);
        e.dueEach("link(1, #, 1)", 2, 1);
        for (String act : SIDE_ACTS) {
            e.another();
            e.due("leaf(0, 2)", 2);
            e.refusedFor(act, BEYOND, Edge.NO_SIDE);
        }

        e.sentence("What comes of it are closed curves: COMPONENTS that go through CROSSINGS, CIRCLES that don't.");
        e.hold(0, "1+i+i+0");
        e.dueEach("link(0, #, 0)", 1, 1);
        e.dueEach("link(0, #, 1)", 1, 2);
        e.hold(0, "i" + Edge.many("+i", 23));
        e.dueEach("link(0, #, 0)", 0, 0);
        e.dueEach("link(0, #, 1)", 24, 25);
        // Side 0 has a curve between each column and the next, side 1 a chain of twelve pairs.
        e.hold(0, "t2" + Edge.many("+t2", 11));
        e.dueEach("link(0, #, 0)", 12, 13);
        e.dueEach("link(0, #, 1)", 0, 0);

        e.sentence("PASSES: a CROSSING, over or under.");
        curves(e, "1*1", 0, row(1, -2, 2, -1));
        e.sentence("BEGIN of a COMPONENT: its PASS with the least CROSSING, of both there over.");
        curves(e, "-1", 1, row(1, -1));
        curves(e, THREE, 0, row(1, -2, 6, -5), row(-1, 2, -4, 3), row(-3, 4, -6, 5));
        // Between them i parts both: the second one is over where it begins, too.
        curves(e, "2+i+2", 1, row(1, -2, 2, -1), row(3, -4, 4, -3));
        curves(e, "2+i+-2", 1, row(1, -2, 2, -1), row(3, -4, 4, -3));
        curves(e, "2+i+t(1+-1)", 1, row(1, -2, 2, -1), row(3, 4), row(-3, -4));
        e.sentence("COMPONENTS are numbered by their BEGINS likewise.");
        e.hold(0, "-1+1");
        e.dueEach("crossing(0, 0, #, 0)", 0, 0);
        e.dueEach("crossing(0, 0, #, 1)", 1, 1);
        e.hold(0, THREE);
        e.dueEach("crossing(0, 0, #, 0)", 0, 1, 1, 2, 2, 0);
        e.dueEach("crossing(0, 0, #, 1)", 1, 0, 2, 1, 0, 2);
        e.sentence("Each goes through its BEGIN from west to east (from NW to SE, or from SW to NE).");
        curves(e, "t2+2", 0, row(1, -2, -4, 3, 2, -1, -3, 4));
        curves(e, "t-2+-2", 0, row(1, -2, -3, 4, 2, -1, -4, 3));
    }

    private static void signs(Edge e) {
        e.sentence("SIGN of a CROSSING: for a LEAF above 0 (as m has made it) 1, if both of its strands go to the east, or both to the"
                + " west, else -1; for one below 0 the other way round.");
        String[] texts = {"1", "-1", "m-1", "m1"};
        long[] east = {1, -1, 1, -1};
        for (int i = 0; i < texts.length; i++) {
            e.hold(0, texts[i]);
            e.due("crossing(0, 0, 0, 2)", east[i]);
            e.due("crossing(0, 1, 0, 2)", -east[i]);
        }
        // At the second crossing both strands go to the west.
        e.hold(0, "1*1");
        e.dueEach("crossing(0, 1, #, 2)", 1, 1);
        e.hold(0, "1*-1");
        e.dueEach("crossing(0, 1, #, 2)", 1, -1);
        e.hold(0, THREE);
        e.dueEach("crossing(0, 0, #, 2)", 1, 1, -1, -1, 1, 1);

        e.sentence("WRITHE: all SIGNS together.");
        e.due("link(0, 0, 3)", 0);
        e.hold(0, THREE);
        e.due("link(0, 0, 3)", 2);
        e.hold(0, "9+9+6");
        e.dueEach("link(0, #, 3)", 24, -24);
        e.due("move(0, 3)", 24);
        e.dueEach("link(0, #, 3)", -24, 24);
        e.hold(0, "1+-1");
        e.dueEach("link(0, #, 3)", 0, 0);

        e.sentence("LINKED: of two COMPONENTS half of all SIGNS where the one is over, the other under.");
        e.hold(0, THREE);
        long[][] want = {{0, 1, 1}, {0, 2, 1}, {1, 2, -1}};
        for (long[] row : want) {
            e.due("linked(0, 0, " + row[0] + ", " + row[1] + ")", row[2]);
            e.due("linked(0, 0, " + row[1] + ", " + row[0] + ")", row[2]);
        }
        e.hold(0, "9+9+6");
        e.due("linked(0, 0, 0, 1)", 12);
        e.due("move(0, 3)", 24);
        e.due("linked(0, 0, 1, 0)", -12);
        e.hold(0, "1+-1");
        e.due("linked(0, 0, 0, 1)", 0);
    }

    private static void arcsAndColours(Edge e) {
        e.sentence("ARCS: COMPONENTS are parted where they are under; one that never is, is one ARC; a CIRCLE is one.");
        e.hold(0, "3");
        e.due("link(0, 0, 2)", 3);
        e.hold(0, "1");
        e.due("link(0, 0, 2)", 1);
        e.hold(0, "1+-1");
        e.due("link(0, 0, 2)", 3);
        e.due("leaf(0, 0)", 0);
        e.dueEach("link(0, #, 2)", 2, 1);
        e.hold(0, "1+-1+i+i");
        // i between them makes one curve of both; one circle stands between i and i, with side 1 one behind them.
        e.dueEach("link(0, #, 2)", 3, 4);
        e.hold(0, "9+9+6");
        e.dueEach("link(0, #, 2)", 24, 24);
        e.hold(0, OVER);
        e.due("link(0, 0, 0)", 12);
        e.due("link(0, 0, 2)", 30);

        e.sentence("COLOURS by p (2, 3, 5, 7, 11, 13): each ARC is given a number 0 to p - 1 so that at each CROSSING twice the number of"
                + " the ARC that is over and the numbers of both ARCS that end there together leave the same by p.");
        String[] texts = {"2", "3", "5", "7", "9+2", "9+4"};
        for (int i = 0; i < texts.length; i++) {
            for (int p : PRIMES) {
                e.hold(0, texts[i]);
                e.due("colours(0, 0, " + p + ")", p == PRIMES[i] ? 2 : 1);
                e.due("colours(0, 1, " + p + ")", 1);
            }
        }
        e.another();
        for (int p : PRIMES) {
            e.hold(0, "1+-1");
            e.due("colours(0, 0, " + p + ")", 2);
            e.hold(0, "t3+t3+t3");
            e.due("colours(0, 0, " + p + ")", p == 3 ? 3 : 1);
            e.hold(0, OVER);
            e.due("colours(0, 0, " + p + ")", 12);
            e.hold(0, "t2" + Edge.many("+t2", 11));
            e.due("colours(0, 0, " + p + ")", p == 2 ? 12 : p == 3 ? 2 : 1);
        }

        e.sentence("There are p times p .. (e times; 1, if e is 0) ways: e.");
        for (int p : PRIMES) {
            e.due("colours(0, 0, " + p + ")", 2);
            e.due("colours(0, 1, " + p + ")", 1);
        }
        e.hold(0, "i" + Edge.many("+i", 23));
        for (int p : PRIMES) {
            e.due("colours(0, 0, " + p + ")", 24);
            e.due("colours(0, 1, " + p + ")", 25);
        }
    }

    private static void linkPromise(Edge e) {
        e.section("Promise 12");
        e.sentence("What comes of a SIDE of a SLOT: what 0 COMPONENTS, 1 CIRCLES, 2 ARCS, 3 WRITHE, 4 the top of THE PAIR (SIDE 0),"
                + " its bottom (SIDE 1), without its sign.");
        e.hold(5, "m3");
        e.dueEach("link(5, 0, #)", 1, 0, 3, -3, 3);
        e.dueEach("link(5, 1, #)", 1, 0, 3, 3, 1);
        e.hold(4, "tt(1+t3)");
        // 1 + -1 / 3 as (2, 3); turned twice (-2, -3).
        e.pair(4, -2, -3);
        e.due("link(4, 0, 4)", 2);
        e.due("link(4, 1, 4)", 3);
        e.hold(3, "t2+t2");
        e.due("link(3, 0, 4)", 4);
        e.due("link(3, 1, 4)", 4);
        e.hold(3, "i+i");
        e.dueEach("link(3, 0, #)", 0, 2, 2, 0, 0);
        e.dueEach("link(3, 1, #)", 0, 3, 3, 0, 0);
        e.harmless("link(5, 0, 3)", -3);
        e.sentence("BEYOND.");
        e.hold(0, "t2+3");
        e.refusedFor("link(#, 0, 0)", BEYOND, Edge.NO_SLOT);
        e.refusedFor("link(0, #, 4)", BEYOND, Edge.NO_SIDE);
        e.refusedFor("link(0, 0, #)", BEYOND, "-1", "5", "MIN", "MAX");
    }

    private static void crossingPromise(Edge e) {
        e.section("Promise 13");
        e.sentence("Of a CROSSING there: what 0 the COMPONENT that is over, 1 that is under, 2 SIGN.");
        e.hold(5, "1+-1");
        e.dueEach("crossing(5, 0, 0, #)", 0, 1, 1);
        e.dueEach("crossing(5, 0, 1, #)", 0, 1, -1);
        e.dueEach("crossing(5, 1, 1, #)", 0, 0, 1);
        e.hold(4, "9+9+6");
        e.dueEach("crossing(4, 0, 23, #)", 1, 0, 1);
        e.harmless("crossing(5, 0, 1, 2)", -1);
        e.sentence("BEYOND: also no such CROSSING.");
        e.due("leaf(0, 3)", 3);
        e.refusedFor("crossing(#, 0, 0, 0)", BEYOND, Edge.NO_SLOT);
        e.refusedFor("crossing(0, #, 0, 0)", BEYOND, Edge.NO_SIDE);
        e.due("crossing(0, 0, 2, 0)", 0);
        e.refusedFor("crossing(0, 0, #, 0)", BEYOND, "-1", "3", "MIN", "MAX");
        e.refusedFor("crossing(0, 0, 0, #)", BEYOND, "-1", "3", "MIN", "MAX");
        e.refusedFor("crossing(1, 0, #, 0)", BEYOND, "0", "-1");
        e.hold(1, "9+9+6");
        e.refused("crossing(1, 0, 24, 2)", BEYOND);
    }

    private static void linkedPromise(Edge e) {
        e.section("Promise 14");
        e.sentence("LINKED, of two COMPONENTS there.");
        e.due("leaf(5, 8)", 8);
        e.due("linked(5, 0, 0, 1)", 4);
        e.due("linked(5, 0, 1, 0)", 4);
        e.due("leaf(5, -8)", 8);
        e.harmless("linked(5, 0, 0, 1)", -4);
        e.hold(5, "t2");
        e.due("linked(5, 1, 0, 1)", 1);
        e.sentence("BEYOND: slot, side.");
        e.due("leaf(0, 2)", 2);
        e.refusedFor("linked(#, 0, 0, 1)", BEYOND, Edge.NO_SLOT);
        e.refusedFor("linked(0, #, 0, 1)", BEYOND, Edge.NO_SIDE);
        e.refused("linked(0, 2, 9, 9)", BEYOND);
        e.sentence("NONE: no such COMPONENTS.");
        e.due("leaf(0, 2)", 2);
        e.refusedFor("linked(0, 0, #, 0)", NONE, "-1", "2", "MIN", "MAX");
        e.refusedFor("linked(0, 0, 1, #)", NONE, "-1", "2", "MIN", "MAX");
        e.refused("linked(0, 0, 2, 2)", NONE);
        e.refused("linked(0, 0, -1, -1)", NONE);
        e.refused("linked(0, 1, 0, 1)", NONE);
        e.refused("linked(1, 0, 0, 1)", NONE);
        e.refused("linked(1, 0, 0, 0)", NONE);
        e.sentence("KIND: they are one.");
        e.due("leaf(0, 2)", 2);
        e.refused("linked(0, 0, 0, 0)", KIND);
        e.refused("linked(0, 0, 1, 1)", KIND);
        e.refused("linked(0, 1, 0, 0)", KIND);
    }

    private static void gaussPromise(Edge e) {
        e.section("Promise 15");
        e.sentence("A SHEET becomes a row of numbers of 8 bits, the PASSES of a COMPONENT there from its BEGIN on, as it goes:"
                + " each 1 more than the CROSSING, less than 0 if it is under: how many.");
        e.due("leaf(5, 3)", 3);
        e.due("gauss(3, 5, 0, 0)", 6);
        e.numbers(3, 1, -2, 3, -1, 2, -3);
        e.due("put(3, 0, 383)", 1);
        e.due("put(3, 1, 128)", 1);
        e.due("of(3, 0)", 127);
        e.due("of(3, 1)", -128);
        e.due("sheet(3, 64, 48)", 1);
        e.due("leaf(5, 2)", 2);
        e.due("gauss(3, 5, 0, 1)", 2);
        e.numbers(3, -1, 2);
        e.due("put(3, 0, 255)", 1);
        e.due("of(3, 0)", -1);
        e.another();
        e.hold(0, "9+9+6");
        e.due("gauss(0, 0, 1, 0)", 48);
        long[] all = new long[48];
        for (int i = 0; i < 24; i++) {
            // There and back: over at each second one, then at the others.
            all[i] = i % 2 == 0 ? i + 1 : -i - 1;
            all[47 - i] = -all[i];
        }
        e.numbers(0, all);
        e.sentence("BEYOND: sheet, slot, side.");
        e.due("leaf(0, 2)", 2);
        e.row(0, 5, 6);
        e.refusedFor("gauss(#, 0, 0, 0)", BEYOND, Edge.NO_SHEET);
        e.refusedFor("gauss(0, #, 0, 0)", BEYOND, Edge.NO_SLOT);
        e.refusedFor("gauss(0, 0, #, 0)", BEYOND, Edge.NO_SIDE);
        e.refused("gauss(4, 0, 0, 9)", BEYOND);
        e.sentence("NONE: no such COMPONENT.");
        e.due("leaf(0, 2)", 2);
        e.row(0, 5, 6);
        e.refusedFor("gauss(0, 0, 0, #)", NONE, "-1", "2", "MIN", "MAX");
        e.refused("gauss(0, 0, 1, 1)", NONE);
        e.refused("gauss(0, 1, 0, 0)", NONE);
        e.refused("gauss(1, 1, 0, 0)", NONE);
        e.numbers(0, 5, 6);
        e.due("of(1, 0)", Edge.LONG_NONE);
    }

    private static void coloursPromise(Edge e) {
        e.section("Promise 16");
        e.sentence("COLOURS by p there.");
        e.due("leaf(5, 3)", 3);
        for (int p : PRIMES) {
            e.due("colours(5, 0, " + p + ")", p == 3 ? 2 : 1);
            e.due("colours(5, 1, " + p + ")", 1);
        }
        e.harmless("colours(5, 0, 3)", 2);
        e.sentence("BEYOND: slot, side, another p.");
        e.due("leaf(0, 3)", 3);
        e.refusedFor("colours(#, 0, 3)", BEYOND, Edge.NO_SLOT);
        e.refusedFor("colours(0, #, 3)", BEYOND, Edge.NO_SIDE);
        e.refusedFor("colours(0, 0, #)", BEYOND, "-3", "-1", "0", "1", "4", "6", "8", "9", "10", "12", "14", "15", "17", "MIN", "MAX");
    }
}
