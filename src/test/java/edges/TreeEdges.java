/** Trees and the slots that hold them: Terms 1, promises 2 to 5. */
final class TreeEdges {
    private static final long BEYOND = Edge.BEYOND;
    private static final long NONE = Edge.NONE;
    private static final long FULL = Edge.FULL;
    /** The acts that take a slot, with # for it, and what they answer when it is slot 5, which holds 2. */
    private static final Object[][] SLOT_ACTS = {{"slot(#, 0)", 1L}, {"leaf(#, 1)", 1L}, {"join(#, 0, 0, 0)", 4L},
        {"join(0, #, 0, 0)", 4L}, {"join(0, 0, 0, #)", 4L}, {"move(#, 2)", 2L}, {"term(#, -1)", 1L},
        {"dance(#, -1)", 5L}, {"least(#, 0, 0, 0)", 0L}, {"least(0, #, 0, 0)", 0L}, {"link(#, 0, 0)", 2L},
        {"crossing(#, 0, 0, 0)", 0L}, {"linked(#, 0, 0, 1)", 1L}, {"gauss(0, #, 0, 0)", 2L}, {"colours(#, 0, 2)", 2L},
        {"name(#, 0, 0)", 2L}, {"alike(#, 0, 0, 0)", 3L}, {"alike(0, 0, #, 0)", 3L}, {"enter(#, 0)", 1L},
        {"judge(0, #)", 0L}, {"loose(#, 1)", 1L}};

    private TreeEdges() {
    }

    static void run(Edge e) {
        e.section("Terms");
        leavesAndNodes(e);
        slots(e);
        limits(e);
        depths(e);
        pairs(e);
        rational(e);
        moves(e);
        slotPromise(e);
        leafPromise(e);
        joinPromise(e);
        movePromise(e);
    }

    private static String zeros(int leaves) {
        return "0" + Edge.many("+0", leaves - 1);
    }

    /** 55 to 61 parts, 19 leaves, no crossings. */
    private static String parts(int parts) {
        return Edge.many("t", parts - 55) + "0" + Edge.many("+t0", 18);
    }

    private static void leavesAndNodes(Edge e) {
        e.sentence("1. A TANGLE is told by a tree.");
        e.hold(0, "(1+2)*3");
        e.pair(0, 9, 6);
        e.hold(0, "1+(2*3)");
        e.pair(0, 11, 5);

        e.sentence("LEAVES: a number k (-9 to 9), or i.");
        e.due("leaf(0, -9)", 9);
        e.pair(0, -9, 1);
        e.due("leaf(0, 9)", 9);
        e.pair(0, 9, 1);
        e.due("leaf(0, 10)", 0);
        e.pair(0, 1, 0);
        e.refusedFor("leaf(0, #)", BEYOND, "-10", "11", "MIN", "MAX");

        e.sentence("NODES: x + y (SUM), x * y (STACK), t x (TURN), m x (MIRROR).");
        e.pairOf("2+3", 5, 1);
        e.due("slot(0, 2)", 3);
        e.pairOf("2*3", 6, 5);
        e.due("slot(0, 2)", 3);
        e.pairOf("t2", -1, 2);
        e.due("slot(0, 2)", 2);
        e.pairOf("m2", -2, 1);
        e.due("slot(0, 2)", 2);
    }

    private static void slots(Edge e) {
        e.sentence("SLOTS 0 to 5 each hold one");
        for (int slot = 0; slot < 6; slot++) {
            e.due("leaf(" + slot + ", " + (slot + 2) + ")", slot + 2);
        }
        for (int slot = 0; slot < 6; slot++) {
            e.due("slot(" + slot + ", 4)", slot + 2);
        }
        for (Object[] act : SLOT_ACTS) {
            e.another();
            e.due("leaf(0, 2)", 2);
            e.due("leaf(5, 2)", 2);
            e.due("sheet(0, 8, 1)", 1);
            e.refusedFor((String) act[0], BEYOND, Edge.NO_SLOT);
            e.due(((String) act[0]).replace("#", "5"), (Long) act[1]);
        }
        for (String reader : new String[] {"tangle(#)", "moves(#)"}) {
            e.another();
            e.tape(reader.startsWith("t") ? "7" : "turn");
            e.refusedFor(reader, BEYOND, Edge.NO_SLOT);
            e.due(reader.replace("#", "5"), reader.startsWith("t") ? 7 : 1);
            e.due("slot(5, 2)", reader.startsWith("t") ? 1 : 2);
        }

        e.sentence("(at first the LEAF 0)");
        for (int slot = 0; slot < 6; slot++) {
            e.dueEach("slot(" + slot + ", #)", 1, 0, 1, 1, 0, 1);
            e.due("link(" + slot + ", 0, 1)", 2);
        }
    }

    private static void limits(Edge e) {
        e.sentence("with at most 24 LEAVES");
        e.fed(zeros(24), "tangle(0)", 0);
        e.due("slot(0, 0)", 24);
        e.due("leaf(1, 0)", 0);
        e.refused("join(0, 1, 0, 2)", FULL);
        e.refused("join(1, 0, 1, 2)", FULL);
        for (String move : new String[] {"0", "1", "4", "5"}) {
            e.refused("move(0, " + move + ")", FULL);
        }
        e.due("move(0, 2)", 0);
        e.due("move(0, 3)", 0);
        e.another();
        e.tape(zeros(25));
        e.emptied("tangle(0)", FULL);
        for (String move : new String[] {"0", "1", "4", "5"}) {
            e.hold(0, zeros(23));
            e.due("move(0, " + move + ")", 1);
            e.due("slot(0, 0)", 24);
        }

        e.sentence("24 CROSSINGS");
        e.fed("9+9+6", "tangle(0)", 24);
        e.due("leaf(1, 1)", 1);
        e.refused("join(0, 1, 0, 2)", FULL);
        e.refused("join(1, 0, 1, 0)", FULL);
        for (String move : new String[] {"0", "1", "4", "5"}) {
            e.refused("move(0, " + move + ")", FULL);
        }
        e.due("move(0, 2)", 24);
        e.due("move(0, 3)", 24);
        e.due("leaf(1, 0)", 0);
        e.due("join(0, 1, 0, 0)", 24);
        e.due("leaf(1, 10)", 0);
        e.due("join(0, 1, 1, 0)", 24);
        e.tape("9+9+7");
        e.emptied("tangle(0)", FULL);
        e.tape("-9*-9*-7");
        e.emptied("tangle(0)", FULL);

        e.sentence("(a LEAF k has as many as k is from 0, i none; others have those of what they are made of)");
        for (int k = -9; k <= 9; k++) {
            e.due("leaf(0, " + k + ")", Math.abs(k));
            e.due("slot(0, 1)", Math.abs(k));
        }
        e.due("leaf(0, 10)", 0);
        e.due("slot(0, 1)", 0);
        e.fed("t-3+m2*i", "tangle(0)", 5);
        e.due("slot(0, 1)", 5);

        e.sentence("60 PARTS (LEAVES and NODES together).");
        e.fed(parts(60), "tangle(0)", 0);
        e.due("slot(0, 2)", 60);
        e.refused("move(0, 2)", FULL);
        e.refused("move(0, 3)", FULL);
        e.refused("move(0, 0)", FULL);
        e.tape(parts(61));
        e.emptied("tangle(0)", FULL);
        e.hold(0, parts(59));
        e.refused("move(0, 4)", FULL);
        e.due("move(0, 3)", 0);
        e.due("slot(0, 2)", 60);
    }

    /** Nested to the right no node is done before the last leaf has come: as many wait as there may be. */
    private static void nestedToTheRight(Edge e, int how) {
        e.another();
        e.due("leaf(0, 1)", 1);
        e.due("leaf(1, 1)", 1);
        for (int leaves = 2; leaves <= 24; leaves++) {
            e.due("join(0, 1, " + how + ", 1)", leaves);
        }
        e.dueEach("slot(1, #)", 24, 24, 47, 24);
        e.pair(1, how == 0 ? 24 : 1, how == 0 ? 1 : 24);
        e.due("slot(1, 6)", 1);
        // One below the other, strands go together at each crossing, to the east or to the west, on both sides.
        e.dueEach("link(1, 0, #)", how == 0 ? 2 : 1, 0, 24, 24);
        e.dueEach("link(1, 1, #)", how == 0 ? 1 : 2, 0, 24, how == 0 ? -24 : 24);
        e.refused("join(0, 1, " + how + ", 1)", FULL);
    }

    private static void depths(Edge e) {
        e.sentence("DEPTH: of a LEAF 1;");
        e.due("leaf(0, -9)", 9);
        e.due("slot(0, 3)", 1);
        e.due("leaf(0, 10)", 0);
        e.due("slot(0, 3)", 1);

        e.sentence("of a NODE 1 more than the greater one of what it is made of.");
        String[] texts = {"t1", "m1", "1+1", "1*1", "tt2+1", "1+tt2", "tt2*1", "1*tt2", "(1+2)+(3+4)", "1+2+3+4"};
        long[] want = {2, 2, 2, 2, 4, 4, 4, 4, 3, 4};
        for (int i = 0; i < texts.length; i++) {
            e.hold(0, texts[i]);
            e.due("slot(0, 3)", want[i]);
        }
        e.another();
        for (int i = 0; i < 59; i++) {
            e.due("move(0, " + (2 + i % 2) + ")", 0);
        }
        e.due("slot(0, 3)", 60);
        e.refused("move(0, 2)", FULL);
        nestedToTheRight(e, 0);
        nestedToTheRight(e, 1);
    }

    private static void pairs(Edge e) {
        e.sentence("THE PAIR of a TANGLE (top, bottom: whole numbers): k: (k, 1).");
        for (int k = -9; k <= 9; k++) {
            e.due("leaf(0, " + k + ")", Math.abs(k));
            e.pair(0, k, 1);
        }
        e.sentence("i: (1, 0).");
        e.due("leaf(0, 10)", 0);
        e.pair(0, 1, 0);

        e.sentence("Of x (a, b), y (c, d): x + y: (a d + c b, b d).");
        e.pairOf("t2+t3", -5, 6);
        e.pairOf("i+2", 1, 0);
        e.pairOf("i+i", 0, 0);
        e.pairOf("0+0", 0, 1);
        e.pairOf("t3" + Edge.many("+t3", 7), -17496, 6561);

        e.sentence("x * y: (a c, a d + c b).");
        e.pairOf("t2*3", -3, 5);
        e.pairOf("0*0", 0, 0);
        e.pairOf("i*2", 2, 1);
        e.pairOf("i*i", 1, 0);
        e.pairOf("3" + Edge.many("*3", 7), 6561, 17496);

        e.sentence("t x: (-b, a).");
        e.pairOf("t3", -1, 3);
        e.pairOf("tt3", -3, -1);
        e.pairOf("t0", -1, 0);
        e.pairOf("ti", 0, 1);
        e.pairOf("t(i+i)", 0, 0);

        e.sentence("m x: (-a, b).");
        e.pairOf("m3", -3, 1);
        e.pairOf("m-3", 3, 1);
        e.pairOf("m0", 0, 1);
        e.pairOf("mi", -1, 0);
        e.pairOf("mt3", 1, 3);
    }

    private static void rationalOf(Edge e, int want, String... texts) {
        for (String text : texts) {
            e.hold(0, text);
            e.due("slot(0, 6)", want);
            e.due("count(1)", 5 + want);
        }
    }

    private static void rational(Edge e) {
        e.sentence("RATIONAL: a LEAF is.");
        rationalOf(e, 1, "-9", "0", "9", "i");
        e.sentence("t x, m x are, if x is.");
        rationalOf(e, 1, "t2", "mi", "tmtm3");
        rationalOf(e, 0, "t(t2+t2)", "m(t2+t2)");
        e.sentence("x + y is, if both are and the bottom of one is 1 or -1.");
        rationalOf(e, 1, "t2+1", "1+t2", "t2+t-1", "t1+t2", "i+3", "t2+t2*1");
        rationalOf(e, 0, "t2+t2", "t2+t-2", "i+t2", "i+i", "(t2+t2)+1", "1+(t2+t2)");
        e.sentence("x * y is, if both are and the top of one is 1 or -1.");
        rationalOf(e, 1, "2*1", "1*2", "2*-1", "-1*2", "0*i", "2*t5", "t-5*2");
        rationalOf(e, 0, "2*2", "0*2", "0*0", "2*-2", "(2*2)*1", "1*(2*2)");
    }

    private static void moves(Edge e) {
        String[] sentences = {"MOVES of a TANGLE x: 0 TWIST: x + 1.", "1 UNTWIST: x + -1.", "2 TURN: t x.", "3 MIRROR: m x.",
            "4 DROP: x * 1.", "5 LIFT: x * -1."};
        long[][] want = {{2, 3}, {-4, 3}, {-3, -1}, {1, 3}, {-1, 2}, {1, -4}};
        for (int move = 0; move < 6; move++) {
            boolean bare = move == 2 || move == 3;
            e.sentence(sentences[move]);
            e.hold(0, "t3");
            e.due("move(0, " + move + ")", bare ? 3 : 4);
            e.pair(0, want[move][0], want[move][1]);
            e.dueEach("slot(0, #)", bare ? 1 : 2, bare ? 3 : 4, bare ? 3 : 4, 3);
        }
    }

    private static void slotPromise(Edge e) {
        e.section("Promise 2");
        e.sentence("Of a SLOT: what 0 LEAVES, 1 CROSSINGS, 2 PARTS, 3 DEPTH, 4 the top of THE PAIR, 5 its bottom,"
                + " 6 1 if it is RATIONAL, else 0, 7 the top of the FRACTION, 8 its bottom.");
        e.hold(5, "t2+mt2*i");
        // mt2 is (1, 2), * i (1, 2), t2 + that (-2 + 2, 4).
        e.dueEach("slot(5, #)", 3, 4, 8, 5, 0, 4, 0, 0, 1);
        e.hold(0, "m(3+t2)");
        e.dueEach("slot(0, #)", 2, 5, 5, 4, -5, 2, 1, -5, 2);
        e.sentence("BEYOND.");
        e.hold(0, "i+i");
        e.refusedFor("slot(#, 0)", BEYOND, Edge.NO_SLOT);
        e.refusedFor("slot(0, #)", BEYOND, "-1", "9", "MIN", "MAX");
        e.refused("slot(6, 7)", BEYOND);
        e.sentence("NONE: (what 7, 8) it has none.");
        e.hold(0, "i+i");
        e.refused("slot(0, 7)", NONE);
        e.refused("slot(0, 8)", NONE);
        e.dueEach("slot(0, #)", 2, 0, 3, 2, 0, 0, 0);
        e.hold(0, "i");
        e.due("slot(0, 7)", 1);
        e.due("slot(0, 8)", 0);
    }

    private static void leafPromise(Edge e) {
        e.section("Promise 3");
        e.sentence("A SLOT holds the LEAF k (-9 to 9; 10: i): how many CROSSINGS it has then.");
        e.hold(0, "(2+3)*t4");
        for (int k = -9; k <= 9; k++) {
            e.due("leaf(0, " + k + ")", Math.abs(k));
            e.dueEach("slot(0, #)", 1, Math.abs(k), 1, 1, k, 1, 1, k, 1);
        }
        e.due("leaf(0, 10)", 0);
        e.dueEach("slot(0, #)", 1, 0, 1, 1, 1, 0, 1, 1, 0);
        e.due("link(0, 1, 1)", 2);
        e.sentence("BEYOND.");
        e.hold(0, "t3");
        e.refusedFor("leaf(#, 1)", BEYOND, Edge.NO_SLOT);
        e.refusedFor("leaf(0, #)", BEYOND, "-10", "11", "MIN", "MAX");
    }

    private static void joinPromise(Edge e) {
        e.section("Promise 4");
        e.sentence("The SUM (how 0), the STACK (1) of what two SLOTS hold (or one, twice) comes to a SLOT: how many CROSSINGS"
                + " that has then.");
        e.hold(0, "t2");
        e.due("leaf(1, 3)", 3);
        e.due("join(0, 1, 0, 2)", 5);
        // (-1, 2) + (3, 1) is (-1 + 6, 2), stacked (-3, -1 + 6).
        e.pair(2, 5, 2);
        e.due("join(0, 1, 1, 3)", 5);
        e.pair(3, -3, 5);
        e.pair(0, -1, 2);
        e.pair(1, 3, 1);
        e.due("join(1, 1, 0, 1)", 6);
        e.pair(1, 6, 1);
        e.due("join(1, 0, 1, 0)", 8);
        e.pair(0, -6, 11);
        e.due("join(2, 3, 0, 3)", 10);
        e.pair(3, 5 * 5 - 3 * 2, 10);
        e.due("slot(3, 2)", 9);
        e.due("slot(3, 3)", 4);
        orderOfJoin(e);

        e.sentence("BEYOND.");
        e.due("leaf(0, 9)", 9);
        e.due("join(0, 0, 0, 1)", 18);
        e.refusedFor("join(#, 1, 0, 2)", BEYOND, Edge.NO_SLOT);
        e.refusedFor("join(1, #, 0, 2)", BEYOND, Edge.NO_SLOT);
        e.refusedFor("join(1, 1, 0, #)", BEYOND, Edge.NO_SLOT);
        e.refusedFor("join(1, 1, #, 2)", BEYOND, "-1", "2", "MIN", "MAX");

        e.sentence("FULL: more than it may have.");
        e.hold(0, zeros(23));
        e.due("leaf(1, 0)", 0);
        e.due("join(0, 1, 0, 2)", 0);
        e.due("slot(2, 0)", 24);
        e.refused("join(2, 1, 0, 3)", FULL);
        e.refused("join(1, 2, 1, 2)", FULL);
        e.refused("join(2, 2, 0, 2)", FULL);
        e.another();
        e.hold(0, "9+9");
        e.due("leaf(1, -6)", 6);
        e.due("leaf(2, 7)", 7);
        e.due("join(0, 1, 1, 3)", 24);
        e.refused("join(0, 2, 1, 3)", FULL);
        e.refused("join(2, 0, 0, 0)", FULL);
        e.another();
        e.hold(0, parts(57));
        e.hold(1, "t0");
        e.due("leaf(2, 0)", 0);
        e.due("join(0, 1, 0, 3)", 0);
        e.due("slot(3, 2)", 60);
        e.hold(0, parts(58));
        e.refused("join(0, 1, 0, 4)", FULL);
        e.refused("join(1, 0, 1, 4)", FULL);
        e.due("join(0, 2, 1, 4)", 0);
        e.due("slot(4, 2)", 60);
        e.refused("join(3, 2, 0, 3)", FULL);
    }

    /** What stands first is on the west, or above: the crossings of one stand ahead of those of the other. */
    private static void orderOfJoin(Edge e) {
        e.another();
        e.due("leaf(0, 2)", 2);
        e.due("leaf(1, -1)", 1);
        e.due("join(0, 1, 0, 2)", 3);
        e.dueEach("crossing(2, 0, #, 2)", 1, 1, -1);
        e.due("join(1, 0, 0, 2)", 3);
        e.dueEach("crossing(2, 0, #, 2)", -1, 1, 1);
    }

    private static void movePromise(Edge e) {
        e.section("Promise 5");
        e.sentence("A MOVE (0 to 5) of what a SLOT holds: how many CROSSINGS it has then.");
        e.due("leaf(5, 3)", 3);
        long[] crossings = {4, 5, 5, 5, 6, 7};
        e.dueEach("move(5, #)", crossings);
        // 3, 4, 3, -1 / 3 as (-1, 3), (1, 3), (1, 4), (-1, -3).
        e.pair(5, -1, -3);
        e.dueEach("slot(5, #)", 5, 7, 11, 7);

        e.sentence("BEYOND.");
        e.hold(0, "9+9+6");
        e.refusedFor("move(#, 0)", BEYOND, Edge.NO_SLOT);
        e.refusedFor("move(0, #)", BEYOND, "-1", "6", "MIN", "MAX");

        e.sentence("FULL.");
        String[] making = {"0", "1", "4", "5"};
        for (String move : making) {
            e.another();
            e.hold(0, "9+9+5");
            e.due("move(0, " + move + ")", 24);
            e.refusedFor("move(0, #)", FULL, making);
            e.due("move(0, 2)", 24);
            e.another();
            e.hold(0, zeros(23));
            e.due("move(0, " + move + ")", 1);
            e.refusedFor("move(0, #)", FULL, making);
            e.due("move(0, 3)", 1);
            e.another();
            e.hold(0, parts(58));
            e.due("move(0, " + move + ")", 1);
            e.due("slot(0, 2)", 60);
            e.refusedFor("move(0, #)", FULL, "0", "1", "2", "3", "4", "5");
        }
        e.another();
        e.hold(0, parts(59));
        e.refusedFor("move(0, #)", FULL, making);
        e.due("move(0, 2)", 0);
        e.refusedFor("move(0, #)", FULL, "2", "3");
    }
}
