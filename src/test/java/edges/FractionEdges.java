/** Fractions, their terms, dances and least rows: Terms 2, promises 9 to 11. */
final class FractionEdges {
    private static final long BEYOND = Edge.BEYOND;
    private static final long NONE = Edge.NONE;

    private FractionEdges() {
    }

    static void run(Edge e) {
        e.section("Terms");
        fractions(e);
        terms(e);
        dances(e);
        least(e);
        termPromise(e);
        dancePromise(e);
        leastPromise(e);
    }

    private static void fractionOf(Edge e, String text, long top, long bottom) {
        e.hold(0, text);
        e.due("slot(0, 7)", top);
        e.due("slot(0, 8)", bottom);
    }

    private static void termsOf(Edge e, String text, long... want) {
        e.hold(0, text);
        e.due("term(0, -1)", want.length);
        e.dueEach("term(0, #)", want);
        e.due("term(0, " + want.length + ")", NONE);
    }

    private static void danceOf(Edge e, String text, String want) {
        e.hold(0, text);
        e.due("dance(0, -1)", want.length());
        for (int i = 0; i < want.length(); i++) {
            e.due("dance(0, " + i + ")", want.charAt(i) - '0');
        }
        e.due("dance(0, " + want.length() + ")", NONE);
    }

    /** The row from what one text tells to what another one tells, and that no fewer moves do. */
    private static void leastOf(Edge e, String from, String to, String row) {
        e.another();
        e.hold(0, from);
        e.hold(1, to);
        int n = row.length();
        e.due("least(0, 1, 8, 0)", n);
        e.due("least(0, 1, " + n + ", 0)", n);
        e.due("least(0, 1, " + n + ", 1)", Long.parseLong("1" + row));
        e.due("least(0, 1, 8, 1)", Long.parseLong("1" + row));
        if (n > 0) {
            e.refused("least(0, 1, " + (n - 1) + ", 0)", NONE);
            e.refused("least(0, 1, " + (n - 1) + ", 1)", NONE);
        }
    }

    private static void fractions(Edge e) {
        e.sentence("2. FRACTION of a PAIR: both by their greatest common divisor, the bottom above 0, or (1, 0);");
        fractionOf(e, "t2+t2", -1, 1);
        fractionOf(e, "t3+t3+t3", -1, 1);
        fractionOf(e, "t-2", 1, 2);
        fractionOf(e, "t2", -1, 2);
        fractionOf(e, "tt3", 3, 1);
        fractionOf(e, "0*2", 0, 1);
        fractionOf(e, "0*-2", 0, 1);
        fractionOf(e, "i", 1, 0);
        fractionOf(e, "mi", 1, 0);
        fractionOf(e, "i+t-2", 1, 0);
        fractionOf(e, "t2+mt2", 0, 1);
        e.sentence("(0, 0) has none.");
        for (String text : new String[] {"i+i", "0*0", "t(i+i)", "m(0*0)", "0*0+5"}) {
            e.hold(0, text);
            e.pair(0, 0, 0);
            e.due("slot(0, 7)", NONE);
            e.due("slot(0, 8)", NONE);
            e.due("term(0, -1)", NONE);
            e.due("dance(0, -1)", NONE);
            e.due("least(0, 0, 0, 0)", NONE);
        }
    }

    private static void terms(Edge e) {
        e.sentence("TERMS of a FRACTION p / q: of one above 0 the whole numbers a, b, .. (a 0 or more, all others 1 or more,"
                + " an odd number of them), for which it is a + 1 / (b + 1 / ..);");
        termsOf(e, "1", 1);
        termsOf(e, "9+9+6", 24);
        termsOf(e, "t-1", 1);
        termsOf(e, "t-2", 0, 1, 1);
        termsOf(e, "t-9", 0, 8, 1);
        termsOf(e, "1+t-2", 1, 1, 1);
        termsOf(e, "2+t-3", 2, 2, 1);
        // 8 / 3 is 2 + 1 / (1 + 1 / 2).
        termsOf(e, "3+t3", 2, 1, 2);
        // 3 / 8 is 0 + 1 / (2 + 1 / (1 + 1 / 2)), which has one too few.
        termsOf(e, "tm(3+t3)", 0, 2, 1, 1, 1);
        e.sentence("of 0 just 0;");
        termsOf(e, "0", 0);
        termsOf(e, "0*2", 0);
        e.sentence("of one below 0 those of what it is without its sign, each less than 0 or 0;");
        termsOf(e, "-1", -1);
        termsOf(e, "-9", -9);
        termsOf(e, "t2", 0, -1, -1);
        termsOf(e, "m(3+t3)", -2, -1, -2);
        termsOf(e, "m(2+t-3)", -2, -2, -1);
        e.sentence("of 1 / 0 none.");
        termsOf(e, "i");
        termsOf(e, "mi");
        termsOf(e, "t0");
    }

    private static void dances(Edge e) {
        e.sentence("DANCE of a FRACTION: as long as it isn't 0: is it below 0, TWIST (1 more), else TURN (-1 by it; of 1 / 0 that is 0).");
        danceOf(e, "0", "");
        danceOf(e, "i", "2");
        danceOf(e, "-1", "0");
        danceOf(e, "-9", "000000000");
        danceOf(e, "1", "20");
        danceOf(e, "2", "20200");
        danceOf(e, "3", "20200200");
        danceOf(e, "t-2", "200");
        // -1 / 2, 1 / 2, -2, -1, 0.
        danceOf(e, "t2", "0200");
        // 3 / 2, -2 / 3, 1 / 3, -3, 0 after three.
        danceOf(e, "2+t2", "202000");
        // -3 / 2, -1 / 2, 1 / 2, -2, -1, 0.
        danceOf(e, "m(2+t2)", "00200");
        // 5 / 2, -2 / 5, 3 / 5, -5 / 3, -2 / 3, 1 / 3, -3, -2, -1, 0.
        danceOf(e, "2+t-2", "202002000");
        // 10 / 7, -7 / 10, 3 / 10, -10 / 3, 2 / 3 after four, -3 / 2, 1 / 2 after two, -2, 0 after two.
        danceOf(e, "2+t(2+t4)", "20200002" + "00200");
        // 12 / 5, -5 / 12, 7 / 12, -12 / 7, 2 / 7 after two, -7 / 2, 1 / 2 after four, -2, 0 after two.
        danceOf(e, "2+tm(2+t-2)", "20200200" + "00200");
    }

    private static void least(Edge e) {
        e.sentence("LEAST from one FRACTION to another one, n: a row of the fewest MOVES 0, 1, 2 (1 more, 1 less, TURN, by which 0 is"
                + " 1 / 0, that 0; 1 / 0 is not changed by 1 more or less),");
        leastOf(e, "0", "1", "0");
        leastOf(e, "0", "-1", "1");
        leastOf(e, "0", "i", "2");
        leastOf(e, "i", "0", "2");
        leastOf(e, "i", "1", "20");
        leastOf(e, "1", "i", "12");
        leastOf(e, "1", "-1", "2");
        leastOf(e, "2", "t2", "2");
        leastOf(e, "t2", "2", "2");
        leastOf(e, "i", "i", "");
        // 4 / 4 and 2 / 2 are one fraction, though their pairs aren't.
        leastOf(e, "t2+t2", "-1", "");
        e.sentence("n at most, that leads from the one to the other;");
        leastOf(e, "0", "8", "00000000");
        leastOf(e, "0", "-8", "11111111");
        leastOf(e, "i", "7", "20000000");
        e.another();
        e.due("leaf(1, 9)", 9);
        e.refused("least(0, 1, 8, 0)", NONE);
        e.refused("least(1, 0, 8, 1)", NONE);
        e.sentence("of several the first as a row.");
        // From 1 to 1 / 2: 2, -1 / 2, 1 / 2 or -1, -2, 1 / 2.
        leastOf(e, "1", "t-2", "020");
        // From -1 to -1 / 2: 1, 2, -1 / 2 or -2, 1 / 2, -1 / 2.
        leastOf(e, "-1", "t2", "121");
    }

    private static void termPromise(Edge e) {
        e.section("Promise 9");
        e.sentence("TERMS of the FRACTION of a SLOT: i -1: how many; else the i-th (from 0).");
        e.hold(5, "3+t3");
        e.due("term(5, -1)", 3);
        e.dueEach("term(5, #)", 2, 1, 2);
        e.harmless("term(5, 2)", 2);
        e.sentence("BEYOND: slot, i below -1.");
        e.hold(0, "i+i");
        e.refusedFor("term(#, 0)", BEYOND, Edge.NO_SLOT);
        e.refusedFor("term(1, #)", BEYOND, "-2", "MIN");
        e.refused("term(0, -2)", BEYOND);
        e.refused("term(6, -1)", BEYOND);
        e.sentence("NONE: there is no FRACTION, no such TERM.");
        e.hold(0, "i+i");
        e.refusedFor("term(0, #)", NONE, "-1", "0", "MAX");
        e.refusedFor("term(1, #)", NONE, "1", "MAX");
        e.hold(1, "3+t3");
        e.refusedFor("term(1, #)", NONE, "3", "48", "MAX");
        e.due("leaf(1, 10)", 0);
        e.due("term(1, -1)", 0);
        e.refused("term(1, 0)", NONE);
    }

    private static void dancePromise(Edge e) {
        e.section("Promise 10");
        e.sentence("DANCE of the FRACTION of a SLOT: i -1: how many MOVES; else the i-th (from 0): 0 TWIST, 2 TURN.");
        e.hold(5, "2+t2");
        e.due("dance(5, -1)", 6);
        e.dueEach("dance(5, #)", 2, 0, 2, 0, 0, 0);
        e.harmless("dance(5, 5)", 0);
        // Of k: a turn and a twist, then k - 1 times a turn and two twists.
        e.hold(4, "9+9+6");
        e.due("dance(4, -1)", 71);
        e.due("dance(4, 70)", 0);
        e.due("dance(4, 68)", 2);
        e.due("dance(4, 69)", 0);
        e.sentence("BEYOND: slot, i below -1.");
        e.hold(0, "i+i");
        e.refusedFor("dance(#, 0)", BEYOND, Edge.NO_SLOT);
        e.refusedFor("dance(1, #)", BEYOND, "-2", "MIN");
        e.refused("dance(0, -2)", BEYOND);
        e.sentence("NONE: there is no FRACTION, no such MOVE.");
        e.hold(0, "i+i");
        e.refusedFor("dance(0, #)", NONE, "-1", "0", "MAX");
        e.refusedFor("dance(1, #)", NONE, "0", "MAX");
        e.hold(1, "9+9+6");
        e.due("dance(1, 70)", 0);
        e.refusedFor("dance(1, #)", NONE, "71", "MAX");
        e.due("leaf(1, 10)", 0);
        e.due("dance(1, 0)", 2);
        e.refusedFor("dance(1, #)", NONE, "1", "MAX");
        e.due("leaf(1, -2)", 2);
        e.refusedFor("dance(1, #)", NONE, "2", "MAX");
    }

    private static void leastPromise(Edge e) {
        e.section("Promise 11");
        e.sentence("LEAST from the FRACTION of one SLOT to that of another one (or the same), by n (0 to 8) MOVES at most:"
                + " what 0 how many, 1 the digit 1 and theirs behind it as a number.");
        e.due("leaf(5, 3)", 3);
        e.due("least(0, 5, 3, 0)", 3);
        e.due("least(0, 5, 3, 1)", 1000);
        e.due("least(5, 0, 8, 1)", 1111);
        e.due("least(5, 5, 0, 0)", 0);
        e.due("least(5, 5, 0, 1)", 1);
        e.due("least(5, 5, 8, 1)", 1);
        e.harmless("least(0, 5, 8, 0)", 3);
        e.due("leaf(5, -8)", 8);
        e.due("least(0, 5, 8, 0)", 8);
        e.due("least(0, 5, 8, 1)", 111111111);
        e.sentence("BEYOND.");
        e.hold(0, "i+i");
        e.refusedFor("least(#, 1, 8, 0)", BEYOND, Edge.NO_SLOT);
        e.refusedFor("least(1, #, 8, 0)", BEYOND, Edge.NO_SLOT);
        e.refusedFor("least(1, 1, #, 0)", BEYOND, "-1", "9", "MIN", "MAX");
        e.refusedFor("least(1, 1, 8, #)", BEYOND, "-1", "2", "MIN", "MAX");
        e.refused("least(0, 0, 9, 0)", BEYOND);
        e.sentence("NONE: one has none, or there is no such row.");
        e.hold(0, "i+i");
        e.refused("least(0, 1, 8, 0)", NONE);
        e.refused("least(1, 0, 8, 0)", NONE);
        e.refused("least(0, 0, 0, 1)", NONE);
        e.due("leaf(2, 8)", 8);
        e.due("leaf(3, 9)", 9);
        e.due("least(1, 2, 8, 0)", 8);
        e.refused("least(1, 2, 7, 0)", NONE);
        e.refused("least(1, 3, 8, 0)", NONE);
        e.refused("least(1, 3, 8, 1)", NONE);
        e.refused("least(2, 3, 0, 0)", NONE);
    }
}
