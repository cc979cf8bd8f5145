/** Rows of numbers and rows of terms: Terms 6, promises 24 to 30. */
final class SheetEdges {
    private static final long BEYOND = Edge.BEYOND;
    private static final long NONE = Edge.NONE;
    private static final long STATE = Edge.STATE;
    private static final long FULL = Edge.FULL;
    private static final long KIND = Edge.KIND;
    private static final long LONG_BEYOND = Edge.LONG_BEYOND;
    private static final long LONG_NONE = Edge.LONG_NONE;
    private static final long LONG_BIG = Edge.LONG_BIG;
    private static final long MOST = 1000000000000000000L;
    private static final int[] BITS = {8, 16, 32, 64};
    private static final String[] NO_BITS = {"-8", "-1", "1", "4", "7", "9", "12", "15", "17", "24", "31", "33", "48", "63", "65", "128",
        "MIN", "MAX"};
    /** The acts that take a sheet, with # for it, what they answer of sheet 3 (two numbers, both 0), and how they refuse. */
    private static final Object[][] SHEET_ACTS = {{"sheet(#, 8, 1)", 1L, BEYOND}, {"put(#, 0, 1)", 1L, BEYOND},
        {"of(#, 0)", 0L, LONG_BEYOND}, {"shift(#, 0, 0, 0, 1)", 1L, BEYOND}, {"shift(0, 0, #, 0, 1)", 1L, BEYOND},
        {"terms(#, 1, 1, 0)", 1L, BEYOND}, {"value(#, 0, 0)", 1L, LONG_BEYOND}, {"judge(#, 0)", 0L, BEYOND},
        {"gauss(#, 0, 0, 0)", 2L, BEYOND}, {"sheet(#, 0, 0)", 1L, BEYOND}};

    private SheetEdges() {
    }

    static void run(Edge e) {
        e.section("Terms");
        rows(e);
        worth(e);
        floorAndCeiling(e);
        evenAndSame(e);
        sheetPromise(e);
        putPromise(e);
        ofPromise(e);
        shiftPromise(e);
        termsPromise(e);
        valuePromise(e);
        bigValues(e);
        judgePromise(e);
    }

    private static void rows(Edge e) {
        e.sentence("6. SHEETS 0 to 3 are rows of numbers of 8, 16, 32 or 64 bits (with a sign), at most 48, or missing (as at first).");
        for (int sheet = 0; sheet < 4; sheet++) {
            e.due("of(" + sheet + ", 0)", LONG_NONE);
            e.due("sheet(" + sheet + ", " + BITS[sheet] + ", 48)", 1);
            e.due("put(" + sheet + ", 47, -1)", 1);
            e.due("of(" + sheet + ", 47)", -1);
            e.refused("of(" + sheet + ", 48)", LONG_BEYOND);
            e.refused("sheet(" + sheet + ", " + BITS[sheet] + ", 49)", BEYOND);
        }
        for (int sheet = 0; sheet < 4; sheet++) {
            e.due("of(" + sheet + ", 47)", -1);
        }
        for (Object[] act : SHEET_ACTS) {
            e.another();
            e.due("leaf(0, 2)", 2);
            e.due("sheet(0, 8, 2)", 1);
            e.due("sheet(3, 8, 2)", 1);
            e.refusedFor((String) act[0], (Long) act[2], Edge.NO_SHEET);
            e.due(((String) act[0]).replace("#", "3"), (Long) act[1]);
        }
    }

    private static void valueOf(Edge e, int how, long top, long bottom) {
        e.due("value(0, " + how + ", 0)", top);
        e.due("value(0, " + how + ", 1)", bottom);
    }

    private static void worth(Edge e) {
        e.sentence("A row of terms a, b, .. is, PLUS: a + 1 / (b + 1 / ..); MINUS: a - 1 / (b - 1 / ..): worked out from the last one on"
                + " as PAIRS: (the last one, 1); then, (u, v) being there, PLUS (term u + v, u), MINUS (term u - v, u).");
        e.row(0, 7);
        valueOf(e, 0, 7, 1);
        valueOf(e, 1, 7, 1);
        // 4, 13 / 4, 30 / 13; 4, 11 / 4, 18 / 11.
        e.row(0, 2, 3, 4);
        valueOf(e, 0, 30, 13);
        valueOf(e, 1, 18, 11);
        // Pairs are no fractions: their signs and divisors stay.
        e.row(0, 5, 0);
        valueOf(e, 0, 1, 0);
        valueOf(e, 1, -1, 0);
        e.row(0, 2, -3);
        valueOf(e, 0, -5, -3);
        valueOf(e, 1, -7, -3);
        e.row(0, 0);
        valueOf(e, 0, 0, 1);
        e.row(0, 3, 0, 0);
        valueOf(e, 0, 3, 1);
        valueOf(e, 1, -3, -1);
    }

    private static void rowOf(Edge e, int how, int p, int q, long... want) {
        e.due("terms(0, " + p + ", " + q + ", " + how + ")", want.length);
        e.numbers(0, want);
    }

    private static void floorAndCeiling(Edge e) {
        e.sentence("Rows of p / q (q not 0; both are first made a FRACTION):");
        rowOf(e, 0, 16, 6, 2, 1, 2);
        rowOf(e, 0, -16, -6, 2, 1, 2);
        rowOf(e, 3, 10, -4, -2, -1, -1);
        rowOf(e, 2, 6, 9, 0, 2, -2);
        rowOf(e, 1, 0, -5, 0);
        rowOf(e, 0, 5, -1, -5);
        rowOf(e, 3, -5, -1, 5);
        rowOf(e, 0, 999999999, 999999999, 1);
        e.refused("terms(0, 5, 0, 0)", BEYOND);
        e.refused("terms(0, 0, 0, 0)", BEYOND);

        e.sentence("FLOOR: the greatest whole number that isn't above it is the term; what is left, 1 by that goes on, till nothing is"
                + " left (PLUS).");
        rowOf(e, 0, 0, 1, 0);
        rowOf(e, 0, 5, 1, 5);
        rowOf(e, 0, -5, 1, -5);
        rowOf(e, 0, 8, 3, 2, 1, 2);
        rowOf(e, 0, -8, 3, -3, 3);
        rowOf(e, 0, 1, 2, 0, 2);
        rowOf(e, 0, -1, 2, -1, 2);
        rowOf(e, 0, 3, 8, 0, 2, 1, 2);

        e.sentence("CEILING: the least whole number that isn't below it; that less it, 1 by that goes on likewise (MINUS).");
        rowOf(e, 1, 0, 1, 0);
        rowOf(e, 1, 5, 1, 5);
        rowOf(e, 1, -5, 1, -5);
        rowOf(e, 1, 7, 3, 3, 2, 2);
        rowOf(e, 1, -7, 3, -2, 3);
        rowOf(e, 1, 1, 3, 1, 2, 2);
        rowOf(e, 1, -1, 3, 0, 3);
    }

    private static void evenAndSame(Edge e) {
        e.sentence("EVEN: the even number that is less than 1 from it; what is left, 1 by that goes on likewise (PLUS); only if one of both"
                + " is even.");
        rowOf(e, 2, 0, 1, 0);
        rowOf(e, 2, 6, 1, 6);
        rowOf(e, 2, -6, 1, -6);
        rowOf(e, 2, 1, 2, 0, 2);
        rowOf(e, 2, -1, 2, 0, -2);
        rowOf(e, 2, 3, 2, 2, -2);
        rowOf(e, 2, -3, 2, -2, 2);
        rowOf(e, 2, 8, 3, 2, 2, -2);
        rowOf(e, 2, 5, 4, 2, -2, 2, -2);
        rowOf(e, 2, 999999998, 1, 999999998);
        for (String both : new String[] {"1, 1", "-1, 3", "7, -3", "9, 3", "6, 2", "-10, 6"}) {
            e.refused("terms(0, " + both + ", 2)", STATE);
        }
        e.sentence("SAME: TERMS.");
        rowOf(e, 3, 0, 1, 0);
        rowOf(e, 3, 5, 1, 5);
        rowOf(e, 3, -5, 1, -5);
        rowOf(e, 3, 1, 2, 0, 1, 1);
        rowOf(e, 3, -1, 2, 0, -1, -1);
        rowOf(e, 3, 8, 3, 2, 1, 2);
        rowOf(e, 3, 3, 8, 0, 2, 1, 1, 1);
    }

    private static void sheetPromise(Edge e) {
        e.section("Promise 24");
        e.sentence("A SHEET has n numbers, all 0, of so many bits (8, 16, 32, 64; 0: it is missing, n doesn't matter): 1.");
        for (int bits : BITS) {
            e.another();
            e.due("sheet(3, " + bits + ", 48)", 1);
            e.due("put(3, 0, 5)", 1);
            e.due("put(3, 47, -5)", 1);
            e.due("sheet(3, " + bits + ", 48)", 1);
            e.numbers(3, Edge.filled(48, 0));
            e.due("put(3, 1, 5)", 1);
            e.due("sheet(3, " + bits + ", 0)", 1);
            e.numbers(3);
            e.due("sheet(3, " + bits + ", 2)", 1);
            e.numbers(3, 0, 0);
            e.due("put(3, 0, 4294967295)", 1);
            e.due("of(3, 0)", bits == 64 ? 4294967295L : -1);
        }
        for (String n : new String[] {"0", "7", "-1", "49", "MIN", "MAX"}) {
            e.due("sheet(3, 8, 1)", 1);
            e.due("sheet(3, 0, " + n + ")", 1);
            e.due("of(3, 0)", LONG_NONE);
        }
        e.due("sheet(2, 0, 0)", 1);
        e.due("of(2, 0)", LONG_NONE);

        e.sentence("BEYOND: no such SHEET, bits.");
        e.row(0, 5, 6);
        e.refusedFor("sheet(#, 8, 1)", BEYOND, Edge.NO_SHEET);
        e.refusedFor("sheet(#, 0, 1)", BEYOND, Edge.NO_SHEET);
        e.refusedFor("sheet(0, #, 1)", BEYOND, NO_BITS);
        e.refused("sheet(0, 7, -1)", BEYOND);
        e.refused("sheet(4, 8, -1)", BEYOND);
        e.sentence("STATE: n is below 0.");
        e.row(0, 5, 6);
        for (int bits : BITS) {
            e.refused("sheet(0, " + bits + ", -1)", STATE);
            e.refused("sheet(1, " + bits + ", MIN)", STATE);
        }
        e.sentence("BEYOND: n is above 48.");
        e.row(0, 5, 6);
        for (int bits : BITS) {
            e.refused("sheet(0, " + bits + ", 49)", BEYOND);
            e.refused("sheet(1, " + bits + ", MAX)", BEYOND);
        }
        e.due("sheet(0, 8, 48)", 1);
    }

    private static void putPromise(Edge e) {
        e.section("Promise 25");
        e.sentence("Number i of a SHEET becomes v (its lowest bits): 1.");
        for (int s = 0; s < 4; s++) {
            long most = Long.MAX_VALUE >> (64 - BITS[s]);
            long least = -most - 1;
            e.due("sheet(" + s + ", " + BITS[s] + ", 3)", 1);
            long[] given = {most, least, most + 1, least - 1, 2 * most + 1, 2 * most + 2, 0x0102030405060708L, Long.MIN_VALUE, -1};
            long[] held = {most, least, least, most, -1, 0, 0x0102030405060708L & (2 * most + 1), BITS[s] == 64 ? Long.MIN_VALUE : 0, -1};
            for (int i = 0; i < given.length; i++) {
                e.due("put(" + s + ", 1, " + given[i] + ")", 1);
                e.numbers(s, 0, held[i], 0);
            }
        }
        e.sentence("BEYOND: no such SHEET.");
        e.row(0, 5, 6);
        e.refusedFor("put(#, 0, 1)", BEYOND, Edge.NO_SHEET);
        e.sentence("NONE: it is missing.");
        e.refused("put(0, 0, 1)", NONE);
        e.refused("put(0, -1, 1)", NONE);
        e.refused("put(0, 48, 1)", NONE);
        e.row(1, 5);
        e.due("sheet(1, 0, 1)", 1);
        e.refused("put(1, 0, 1)", NONE);
        e.sentence("BEYOND: no such number.");
        e.row(0, 5, 6);
        e.due("put(0, 1, 7)", 1);
        e.refusedFor("put(0, #, 1)", BEYOND, "-1", "2", "47", "48", "MIN", "MAX");
        e.due("sheet(1, 8, 48)", 1);
        e.due("put(1, 47, 1)", 1);
        e.refused("put(1, 48, 1)", BEYOND);
        e.due("sheet(1, 8, 0)", 1);
        e.refused("put(1, 0, 1)", BEYOND);
    }

    private static void ofPromise(Edge e) {
        e.section("Promise 26");
        e.sentence("Number i of a SHEET.");
        e.row(3, 5, -6, Long.MAX_VALUE, Long.MIN_VALUE);
        e.numbers(3, 5, -6, Long.MAX_VALUE, Long.MIN_VALUE);
        e.harmless("of(3, 3)", Long.MIN_VALUE);
        e.sentence("BEYOND: no such SHEET.");
        e.refusedFor("of(#, 0)", LONG_BEYOND, Edge.NO_SHEET);
        e.sentence("NONE: it is missing.");
        e.refusedFor("of(0, #)", LONG_NONE, "0", "-1", "48", "MIN", "MAX");
        e.sentence("BEYOND: no such number.");
        e.row(0, 5, 6);
        e.refusedFor("of(0, #)", LONG_BEYOND, "-1", "2", "47", "48", "MIN", "MAX");
        e.due("sheet(0, 8, 0)", 1);
        e.refused("of(0, 0)", LONG_BEYOND);
        e.sentence("(A number may be as an ERROR is.)");
        for (int kind = 1; kind <= 6; kind++) {
            e.row(0, -9000000000000000000L - kind);
            e.harmless("of(0, 0)", -9000000000000000000L - kind);
            e.due("told(" + kind + ")", 0);
        }
    }

    private static void shiftPromise(Edge e) {
        e.section("Promise 27");
        e.sentence("n numbers of a SHEET, from number i on, come to another one (or the same), from its number j on, as they all were: n.");
        e.row(0, 1, 2, 3, 4, 5);
        e.row(3, 7, 8, 9);
        e.due("shift(0, 0, 0, 1, 4)", 4);
        e.numbers(0, 1, 1, 2, 3, 4);
        e.due("shift(0, 1, 0, 0, 4)", 4);
        e.numbers(0, 1, 2, 3, 4, 4);
        e.due("shift(0, 0, 0, 0, 5)", 5);
        e.numbers(0, 1, 2, 3, 4, 4);
        e.due("shift(0, 2, 3, 0, 3)", 3);
        e.numbers(3, 3, 4, 4);
        e.numbers(0, 1, 2, 3, 4, 4);
        e.due("shift(3, 2, 0, 4, 1)", 1);
        e.harmless("shift(0, 0, 3, 0, 0)", 0);
        e.harmless("shift(0, 5, 3, 3, 0)", 0);
        for (int bits : BITS) {
            e.another();
            e.due("sheet(0, " + bits + ", 48)", 1);
            e.due("sheet(1, " + bits + ", 48)", 1);
            e.due("put(0, 0, -1)", 1);
            e.due("put(0, 47, -2)", 1);
            e.due("shift(0, 0, 1, 0, 48)", 48);
            e.due("of(1, 0)", -1);
            e.due("of(1, 47)", -2);
        }
        e.due("sheet(2, 64, 0)", 1);
        e.harmless("shift(2, 0, 2, 0, 0)", 0);

        e.sentence("BEYOND: no such SHEET.");
        e.row(0, 5, 6);
        e.refusedFor("shift(#, 0, 0, 0, 1)", BEYOND, Edge.NO_SHEET);
        e.refusedFor("shift(0, 0, #, 0, 1)", BEYOND, Edge.NO_SHEET);
        e.refused("shift(1, 0, 4, 0, 1)", BEYOND);
        e.sentence("NONE: one is missing.");
        e.row(0, 5, 6);
        e.refused("shift(0, 0, 1, 0, 1)", NONE);
        e.refused("shift(1, 0, 0, 0, 1)", NONE);
        e.refused("shift(1, 0, 1, 0, 0)", NONE);
        e.refused("shift(0, -1, 1, 0, 1)", NONE);
        e.sentence("KIND: they are of unlike bits.");
        for (int one : BITS) {
            for (int other : BITS) {
                e.due("sheet(0, " + one + ", 1)", 1);
                e.due("sheet(1, " + other + ", 1)", 1);
                if (one == other) {
                    e.due("shift(0, 0, 1, 0, 1)", 1);
                } else {
                    e.refused("shift(0, 0, 1, 0, 1)", KIND);
                    e.refused("shift(0, 0, 1, 0, 0)", KIND);
                    e.refused("shift(0, -1, 1, 9, 9)", KIND);
                }
            }
        }
        shiftsBeyond(e);
    }

    private static void shiftsBeyond(Edge e) {
        e.sentence("BEYOND: n, i or j is below 0, or they don't stand there.");
        e.row(0, 1, 2, 3, 4);
        e.row(1, 7, 8);
        e.refusedFor("shift(0, 0, 1, 0, #)", BEYOND, "-1", "3", "MIN", "MAX");
        e.refusedFor("shift(0, #, 1, 0, 1)", BEYOND, "-1", "4", "MIN", "MAX");
        e.refusedFor("shift(0, 0, 1, #, 1)", BEYOND, "-1", "2", "MIN", "MAX");
        e.refusedFor("shift(0, #, 1, 0, 2)", BEYOND, "-1", "3", "MAX");
        e.refusedFor("shift(0, 0, 1, #, 2)", BEYOND, "-1", "1", "MAX");
        e.refusedFor("shift(1, 0, 0, 0, #)", BEYOND, "3", "MAX");
        e.refused("shift(0, -1, 1, 0, 0)", BEYOND);
        e.refused("shift(0, 0, 1, -1, 0)", BEYOND);
        e.refused("shift(0, 5, 1, 0, 0)", BEYOND);
        e.refused("shift(0, 0, 1, 3, 0)", BEYOND);
        e.refused("shift(0, MAX, 1, 0, MAX)", BEYOND);
        e.refused("shift(0, 0, 0, 1, 4)", BEYOND);
        e.due("shift(0, 3, 1, 1, 1)", 1);
        e.numbers(1, 7, 4);
    }

    private static void termsPromise(Edge e) {
        e.section("Promise 28");
        e.sentence("A SHEET becomes a row of numbers of 64 bits, that of p / q (p, q -999999999 to 999999999): how 0 FLOOR, 1 CEILING,"
                + " 2 EVEN, 3 SAME: how many.");
        e.due("terms(3, 8, 3, 0)", 3);
        e.numbers(3, 2, 1, 2);
        e.due("put(3, 0, LONG_MIN)", 1);
        e.due("of(3, 0)", Long.MIN_VALUE);
        e.due("sheet(3, 8, 48)", 1);
        e.due("terms(3, -7, 3, 1)", 2);
        e.numbers(3, -2, 3);
        e.due("put(3, 0, LONG_MAX)", 1);
        e.due("of(3, 0)", Long.MAX_VALUE);
        e.due("terms(3, 8, 3, 2)", 3);
        e.numbers(3, 2, 2, -2);
        e.due("terms(3, 3, 8, 3)", 5);
        e.numbers(3, 0, 2, 1, 1, 1);
        rowOf(e, 0, 999999999, 1, 999999999);
        rowOf(e, 1, -999999999, 1, -999999999);
        rowOf(e, 0, 999999999, 999999998, 1, 999999998);
        rowOf(e, 1, -999999999, 999999998, -1, 999999998);
        rowOf(e, 0, 1, -999999999, -1, 1, 999999998);
        rowOf(e, 3, -999999999, 2, -499999999, -1, -1);
        rowOf(e, 2, 999999999, 2, 500000000, -2);
        e.due("terms(0, 701408733, 433494437, 0)", 42);
        e.due("of(0, 41)", 2);
        e.due("terms(0, 701408733, 433494437, 3)", 43);
        e.due("of(0, 42)", 1);

        e.sentence("BEYOND: also q is 0.");
        e.row(0, 5, 6);
        e.refusedFor("terms(#, 1, 2, 0)", BEYOND, Edge.NO_SHEET);
        e.refusedFor("terms(0, #, 1, 0)", BEYOND, "1000000000", "-1000000000", "MIN", "MAX");
        e.refusedFor("terms(0, 1, #, 0)", BEYOND, "1000000000", "-1000000000", "MIN", "MAX", "0");
        e.refusedFor("terms(0, 1, 2, #)", BEYOND, "-1", "4", "MIN", "MAX");
        e.refusedFor("terms(0, 0, 0, #)", BEYOND, "0", "1", "2", "3");
        e.refused("terms(0, 1000000001, 1, 2)", BEYOND);
        e.sentence("STATE (how 2): both are odd as a FRACTION.");
        e.row(0, 5, 6);
        for (String both : new String[] {"1, 1", "-1, 1", "7, 3", "7, -3", "9, 3", "6, 2", "-999999999, 999999997", "51, 49", "3, 3"}) {
            e.refused("terms(0, " + both + ", 2)", STATE);
        }
        e.due("terms(0, 7, 3, 0)", 2);
        e.due("terms(0, 7, 3, 1)", 3);
        e.due("terms(0, 7, 3, 3)", 3);
        e.due("terms(0, 12, 9, 2)", 3);
        e.sentence("FULL: more than 48.");
        e.row(0, 5, 6);
        e.refused("terms(0, 50, 49, 1)", FULL);
        e.refused("terms(1, 50, 49, 2)", FULL);
        e.refused("terms(0, -50, 49, 2)", FULL);
        e.refused("terms(0, 1, 999999999, 1)", FULL);
        e.refused("terms(0, 999999999, 999999998, 2)", FULL);
        e.numbers(0, 5, 6);
        e.due("terms(0, 49, 48, 1)", 48);
        e.numbers(0, Edge.filled(48, 2));
        e.due("terms(0, 49, 48, 2)", 48);
        e.due("of(0, 46)", 2);
        e.due("of(0, 47)", -2);
        e.due("terms(0, -49, 48, 2)", 48);
        e.due("of(0, 47)", 2);
    }

    private static void valuePromise(Edge e) {
        e.section("Promise 29");
        e.sentence("What the row of a SHEET is, PLUS (how 0), MINUS (1): what 0 the top, 1 the bottom of the last PAIR.");
        e.row(3, 2, 3, 4);
        e.due("value(3, 0, 0)", 30);
        e.due("value(3, 0, 1)", 13);
        e.due("value(3, 1, 0)", 18);
        e.harmless("value(3, 1, 1)", 11);
        e.due("terms(0, 49, 48, 1)", 48);
        valueOf(e, 1, 49, 48);
        e.due("terms(0, 355, 113, 0)", 3);
        valueOf(e, 0, 355, 113);
        e.due("sheet(0, 8, 2)", 1);
        e.due("put(0, 0, 127)", 1);
        e.due("put(0, 1, 128)", 1);
        // Of 8 bits 128 is -128: 127 times that, 1 more or less.
        valueOf(e, 0, -16255, -128);
        valueOf(e, 1, -16257, -128);
        e.another();
        e.row(0, Edge.filled(48, 1));
        valueOf(e, 0, 7778742049L, 4807526976L);
        e.sentence("BEYOND.");
        e.row(0, 5, 6);
        e.refusedFor("value(#, 0, 0)", LONG_BEYOND, Edge.NO_SHEET);
        e.refusedFor("value(0, #, 0)", LONG_BEYOND, "-1", "2", "MIN", "MAX");
        e.refusedFor("value(0, 0, #)", LONG_BEYOND, "-1", "2", "MIN", "MAX");
        e.refused("value(1, 2, 0)", LONG_BEYOND);
        e.sentence("NONE: the SHEET is missing, has no number.");
        e.refused("value(0, 0, 0)", LONG_NONE);
        e.refused("value(0, 1, 1)", LONG_NONE);
        for (int bits : BITS) {
            e.due("sheet(1, " + bits + ", 0)", 1);
            e.refused("value(1, 0, 0)", LONG_NONE);
            e.refused("value(1, 1, 1)", LONG_NONE);
        }
        e.due("sheet(1, 8, 1)", 1);
        e.due("value(1, 0, 1)", 1);
    }

    /** How the row of sheet 0 is refused as PLUS and MINUS, whichever number of the pair is asked. */
    private static void tooBig(Edge e, int how, long... row) {
        e.row(0, row);
        e.refused("value(0, " + how + ", 0)", LONG_BIG);
        e.refused("value(0, " + how + ", 1)", LONG_BIG);
    }

    private static void fits(Edge e, int how, long top, long bottom, long... row) {
        e.row(0, row);
        valueOf(e, how, top, bottom);
    }

    private static void bigValues(Edge e) {
        e.sentence("BIG: a number of a PAIR is above 1000000000000000000, or below 0 less that (the last number of the SHEET, too).");
        fits(e, 0, MOST, 1, MOST);
        fits(e, 0, -MOST, 1, -MOST);
        for (int how = 0; how < 2; how++) {
            tooBig(e, how, MOST + 1);
            tooBig(e, how, -MOST - 1);
            tooBig(e, how, Long.MAX_VALUE);
            tooBig(e, how, Long.MIN_VALUE);
        }
        e.another();
        fits(e, 1, MOST - 1, MOST, 1, MOST);
        tooBig(e, 0, 1, MOST);
        fits(e, 0, -MOST + 1, MOST, -1, MOST);
        tooBig(e, 1, -1, MOST);
        fits(e, 0, MOST, 1, MOST - 1, 1);
        tooBig(e, 0, MOST, 1);
        fits(e, 1, MOST, 1, MOST + 1, 1);
        tooBig(e, 1, MOST + 2, 1);
        fits(e, 0, -MOST, 1, -MOST - 1, 1);
        tooBig(e, 0, -MOST - 2, 1);
        fits(e, 1, MOST - 1, 1000000000, 1000000000, 1000000000);
        tooBig(e, 0, 1000000000, 1000000000);
        fits(e, 0, -MOST + 1, 1000000000, -1000000000, 1000000000);
        tooBig(e, 1, -1000000000, 1000000000);
        e.another();
        // A term that meets 0 is no number of a pair, however big it is.
        fits(e, 0, 1, 0, Long.MAX_VALUE, 0);
        fits(e, 0, 1, 0, Long.MIN_VALUE, 0);
        fits(e, 1, -1, 0, Long.MIN_VALUE, 0);
        // Products that would wrap around to small numbers.
        tooBig(e, 0, 1L << 62, 4);
        tooBig(e, 0, Long.MIN_VALUE, 2);
        tooBig(e, 1, Long.MIN_VALUE, 2);
        tooBig(e, 0, Long.MIN_VALUE, -1);
        tooBig(e, 0, 1L << 32, 1L << 32);
        // The last pair would be small again, but one on the way is too big.
        tooBig(e, 0, 0, 0, MOST, 2);
        tooBig(e, 0, 0, MOST + 1, 1, 1);
        fits(e, 0, 1, MOST, 0, MOST);
    }

    private static void judgePromise(Edge e) {
        e.section("Promise 30");
        e.sentence("Numbers of a SHEET are TERMS of the FRACTION of a SLOT: the first place that isn't so (one that lacks, or is too many,"
                + " too); -1: all are.");
        e.hold(5, "3+t3");
        e.row(3, 2, 1, 2);
        e.due("judge(3, 5)", -1);
        e.harmless("judge(3, 5)", -1);
        long[][] rows = {{}, {3}, {2}, {2, 1}, {2, 2, 2}, {2, 1, 3}, {2, 1, 2, 1}, {2, 1, 1, 1}, {-2, -1, -2}, {2, 1, 2, 0}, {0}};
        long[] want = {0, 0, 1, 2, 1, 2, 3, 2, 0, 3, 0};
        for (int i = 0; i < rows.length; i++) {
            e.row(3, rows[i]);
            e.due("judge(3, 5)", want[i]);
        }
        e.another();
        e.due("leaf(0, 10)", 0);
        e.row(0);
        e.due("judge(0, 0)", -1);
        e.due("judge(0, 1)", 0);
        e.row(0, 0);
        e.due("judge(0, 0)", 0);
        e.due("judge(0, 1)", -1);
        e.due("leaf(1, -1)", 1);
        for (int bits : BITS) {
            e.due("sheet(0, " + bits + ", 1)", 1);
            e.due("put(0, 0, -1)", 1);
            e.due("judge(0, 1)", -1);
        }
        e.due("sheet(0, 64, 48)", 1);
        e.due("put(0, 0, -1)", 1);
        e.due("judge(0, 1)", 1);
        e.row(0, 4294967295L);
        e.due("judge(0, 1)", 0);
        e.sentence("BEYOND.");
        e.row(0, 0);
        e.hold(1, "i+i");
        e.refusedFor("judge(#, 0)", BEYOND, Edge.NO_SHEET);
        e.refusedFor("judge(0, #)", BEYOND, Edge.NO_SLOT);
        e.refused("judge(1, 6)", BEYOND);
        e.refused("judge(4, 1)", BEYOND);
        e.sentence("NONE: the SHEET is missing, there is no FRACTION.");
        e.refused("judge(0, 0)", NONE);
        e.row(0, 0);
        e.hold(1, "i+i");
        e.refused("judge(0, 1)", NONE);
        e.refused("judge(1, 1)", NONE);
        e.row(0);
        e.refused("judge(0, 1)", NONE);
        e.due("sheet(0, 0, 0)", 1);
        e.due("leaf(0, 10)", 0);
        e.refused("judge(0, 0)", NONE);
    }
}
