/** Draws, images and counts: promises 31 to 35. */
final class ImageEdges {
    private static final long BEYOND = Edge.BEYOND;
    private static final long NONE = Edge.NONE;

    private ImageEdges() {
    }

    static void run(Edge e) {
        seedPromise(e);
        loosePromise(e);
        noRoom(e);
        imagePromise(e);
        restorePromise(e);
        countPromise(e);
    }

    private static void seedPromise(Edge e) {
        e.section("Promise 31");
        e.sentence("z becomes v (1 at first): what it was (any number).");
        e.due("count(5)", 1);
        long[] numbers = {0, -1, Integer.MIN_VALUE, Integer.MAX_VALUE, -1000000000, -1000000001, -1000000006, 1};
        long before = 1;
        for (long number : numbers) {
            e.due("seed(" + number + ")", before);
            e.due("count(5)", number);
            before = number;
        }
        for (int k = 1; k <= 6; k++) {
            e.due("told(" + k + ")", 0);
        }
    }

    private static void loosePromise(Edge e) {
        e.section("Promise 32");
        e.sentence("n times (1 to 20): z becomes z * 1103515245 + 12345 (an int); the MOVE that z >>> 8 leaves by 6, of what a SLOT holds,"
                + " if it has room: how many were.");
        // From 1: TURN, TURN, TWIST, LIFT: (-1, 0), (0, -1), (-1, -1), (1, 0).
        e.due("loose(5, 1)", 1);
        e.due("count(5)", 1103527590);
        e.pair(5, -1, 0);
        e.due("loose(5, 3)", 3);
        e.due("count(5)", -999580867);
        e.pair(5, 1, 0);
        e.due("slot(5, 2)", 7);
        // From 0: TWIST, then z is below 0: TWIST, MIRROR, DROP: 1, 2, -2, (-2, -1).
        e.due("seed(0)", -999580867);
        e.due("loose(4, 4)", 4);
        e.due("count(5)", -698016724);
        e.pair(4, -2, -1);
        // z wraps around: LIFT, TURN, LIFT, UNTWIST: (0, -1), (1, 0), (-1, 1), (-2, 1).
        e.due("seed(MAX)", -698016724);
        e.due("loose(3, 4)", 4);
        e.due("count(5)", 1751031067);
        e.pair(3, -2, 1);
        e.due("seed(MIN)", 1751031067);
        e.due("loose(2, 1)", 1);
        e.due("count(5)", -2147471303);
        e.pair(2, -1, 0);
        e.due("seed(1)", -2147471303);
        e.due("loose(1, 20)", 20);
        int z = 1;
        for (int i = 0; i < 20; i++) {
            z = z * 1103515245 + 12345;
        }
        e.due("count(5)", z);
    }

    private static void noRoom(Edge e) {
        e.another();
        e.hold(0, "9+9+6");
        e.due("seed(0)", 1);
        e.due("loose(0, 4)", 1);
        e.due("count(5)", -698016724);
        e.due("slot(0, 2)", 6);
        e.pair(0, -24, 1);
        e.another();
        e.hold(0, "9+9+5");
        e.due("seed(0)", 1);
        e.due("loose(0, 4)", 2);
        e.pair(0, -24, 1);
        e.another();
        e.hold(0, "0" + Edge.many("+0", 22));
        e.due("seed(0)", 1);
        e.due("loose(0, 4)", 2);
        e.due("slot(0, 0)", 24);
        String tail = Edge.many("+t0", 18);
        String[] texts = {"ttt0" + tail, "tttt0" + tail, "ttttt0" + tail};
        // With 58 parts the first TWIST, with 59 the MIRROR, with 60 nothing.
        long[] done = {1, 1, 0};
        for (int i = 0; i < texts.length; i++) {
            e.another();
            e.hold(0, texts[i]);
            e.due("seed(0)", 1);
            e.due("loose(0, 4)", done[i]);
            e.due("slot(0, 2)", 60);
            e.due("slot(0, 1)", i == 0 ? 1 : 0);
            e.due("count(5)", -698016724);
            for (int k = 1; k <= 6; k++) {
                e.due("told(" + k + ")", 0);
            }
        }
        e.sentence("BEYOND.");
        e.hold(0, "t3");
        e.refusedFor("loose(#, 1)", BEYOND, Edge.NO_SLOT);
        e.refusedFor("loose(0, #)", BEYOND, "0", "21", "-1", "MIN", "MAX");
        e.due("count(5)", 1);
        e.due("loose(0, 20)", 20);
    }

    private static void imagePromise(Edge e) {
        e.section("Promise 33");
        e.sentence("What all SLOTS hold, and z, is kept as an IMAGE, in place of one ahead: how often that was done.");
        for (int slot = 0; slot < 6; slot++) {
            e.hold(slot, "t" + (slot + 2));
        }
        e.due("seed(9)", 1);
        e.due("image()", 1);
        for (int slot = 0; slot < 6; slot++) {
            e.due("leaf(" + slot + ", 0)", 0);
        }
        e.due("seed(8)", 9);
        e.due("restore()", 27);
        for (int slot = 0; slot < 6; slot++) {
            e.pair(slot, -1, slot + 2);
            e.due("slot(" + slot + ", 2)", 2);
        }
        e.due("count(5)", 9);
        e.due("leaf(0, 0)", 0);
        e.due("seed(7)", 9);
        e.due("image()", 2);
        e.due("leaf(1, 0)", 0);
        e.due("restore()", 25);
        e.pair(0, 0, 1);
        e.pair(1, -1, 3);
        e.due("count(5)", 7);
        e.due("image()", 3);
    }

    private static void restorePromise(Edge e) {
        e.section("Promise 34");
        e.sentence("SLOTS and z are as the IMAGE has them, which stays: how many CROSSINGS there are together.");
        e.due("image()", 1);
        e.due("leaf(0, 3)", 3);
        e.due("seed(5)", 1);
        e.due("restore()", 0);
        e.due("count(5)", 1);
        e.pair(0, 0, 1);
        e.due("leaf(0, 4)", 4);
        e.due("move(0, 0)", 5);
        e.due("loose(1, 5)", 5);
        e.due("restore()", 0);
        e.pair(0, 0, 1);
        e.due("count(5)", 1);
        e.harmless("restore()", 0);
        e.another();
        for (int slot = 0; slot < 6; slot++) {
            e.hold(slot, "9+9+6");
        }
        e.due("image()", 1);
        e.due("leaf(0, 10)", 0);
        e.due("restore()", 144);
        e.due("count(0)", 144);
        // Nothing but slots and z goes back: tape, book, sheets, what was told, how often images were kept.
        e.tape("12");
        e.due("enter(0, 0)", 1);
        e.row(0, 5);
        e.due("told(7)", BEYOND);
        e.due("restore()", 144);
        e.due("count(2)", 2);
        e.due("count(3)", 1);
        e.numbers(0, 5);
        e.due("told(1)", 2);
        e.due("image()", 2);
        e.sentence("NONE: there is none.");
        e.due("leaf(0, 3)", 3);
        e.due("seed(5)", 1);
        e.refused("restore()", NONE);
        e.due("count(0)", 3);
        e.due("count(5)", 5);
        e.due("image()", 1);
        e.due("restore()", 3);
    }

    private static void countPromise(Edge e) {
        e.section("Promise 35");
        e.sentence("0 CROSSINGS of all SLOTS together, 1 how many SLOTS are RATIONAL, 2 bytes of THE TAPE, 3 NAMES in THE BOOK, 4 how often"
                + " one was entered, 5 z (any number).");
        e.dueEach("count(#)", 0, 6, 0, 0, 0, 1);
        for (int slot = 0; slot < 6; slot++) {
            e.hold(slot, "t2+t2");
            e.due("count(0)", 4 * (slot + 1));
            e.due("count(1)", 5 - slot);
        }
        e.due("leaf(5, -4)", 4);
        e.due("enter(5, 0)", 1);
        e.due("enter(5, 0)", 2);
        e.due("enter(5, 1)", 1);
        e.due("enter(4, 0)", Edge.STATE);
        e.tape(Edge.many("x", 100));
        e.due("seed(-1000000001)", 1);
        e.dueEach("count(#)", 24, 1, 100, 2, 3, -1000000001);
        e.due("told(1)", 0);
        e.harmless("count(4)", 3);
        e.sentence("BEYOND.");
        e.refusedFor("count(#)", BEYOND, "-1", "6", "MIN", "MAX");
    }
}
