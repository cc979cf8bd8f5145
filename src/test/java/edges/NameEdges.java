/** Names of those with two bridges, and the book of them: Terms 4, promises 17 to 23. */
final class NameEdges {
    private static final long BEYOND = Edge.BEYOND;
    private static final long NONE = Edge.NONE;
    private static final long STATE = Edge.STATE;
    private static final long FULL = Edge.FULL;
    private static final long BIG = Edge.BIG;

    private NameEdges() {
    }

    static void run(Edge e) {
        e.section("Terms");
        names(e);
        sizes(e);
        changes(e);
        book(e);
        namePromise(e);
        alikePromise(e);
        listedPromise(e);
        enterPromise(e);
        bookPromise(e);
        rankedPromise(e);
        enteredPromise(e);
    }

    /** P and Q of a side, and as many of what else is told of it as are given. */
    private static void nameOf(Edge e, String text, int side, long... want) {
        e.hold(0, text);
        e.dueEach("name(0, " + side + ", #)", want);
    }

    private static void names(Edge e) {
        e.sentence("4. NAME (P, Q) of a SIDE of a RATIONAL one.");
        nameOf(e, "3", 0, 3, 1);
        e.hold(0, "t2+t2");
        e.refused("name(0, 0, 0)", STATE);
        e.sentence("SIDE 0 of p / q: P is p without its sign;");
        nameOf(e, "7", 0, 7);
        nameOf(e, "-7", 0, 7);
        nameOf(e, "2+t-3", 0, 7);
        nameOf(e, "m(2+t-3)", 0, 7);
        e.sentence("q, or -q, if p is below 0, leaves r by P (0 to P - 1);");
        nameOf(e, "3", 0, 3, 1);
        nameOf(e, "-3", 0, 3, 2);
        nameOf(e, "2+t-3", 0, 7, 3);
        // 3 / 7 and -3 / 7: 7 leaves 1 by 3, -7 leaves 2.
        nameOf(e, "tm(2+t-3)", 0, 3, 1);
        nameOf(e, "t(2+t-3)", 0, 3, 2);
        e.sentence("Q is the lesser one of r and of the number of 1 to P - 1 that, r times, leaves 1 by P;");
        // 5 / 3: 3 times 2 leaves 1. -7 / 3: r is 4, 4 times 2 leaves 1. 8 / 5 and 8 / 3: 5 times 5, 3 times 3.
        nameOf(e, "2+t3", 0, 5, 2);
        nameOf(e, "m(2+t3)", 0, 5, 2);
        nameOf(e, "m(2+t-3)", 0, 7, 2);
        nameOf(e, "2+t(3+t2)", 0, 8, 5);
        nameOf(e, "m(2+t(3+t2))", 0, 8, 3);
        nameOf(e, "2", 0, 2, 1);
        nameOf(e, "m(9+9+6)", 0, 24, 23);
        e.sentence("if P is 0, Q is 1; if P is 1, Q is 0.");
        nameOf(e, "0", 0, 0, 1);
        nameOf(e, "2+-2", 0, 0, 1);
        nameOf(e, "1", 0, 1, 0);
        nameOf(e, "-1", 0, 1, 0);
        nameOf(e, "i", 0, 1, 0);
        nameOf(e, "t5", 0, 1, 0);
        nameOf(e, "t-5", 0, 1, 0);
        e.sentence("SIDE 1: as SIDE 0 of t x.");
        nameOf(e, "0", 1, 1, 0);
        nameOf(e, "i", 1, 0, 1);
        nameOf(e, "5", 1, 1, 0);
        nameOf(e, "t3", 1, 3, 1);
        nameOf(e, "t-3", 1, 3, 2);
        // -3 / 5: -5 leaves 1 by 3; 3 / 5: 5 leaves 2.
        nameOf(e, "2+t3", 1, 3, 1);
        nameOf(e, "m(2+t3)", 1, 3, 2);
        e.sentence("GLASS of a NAME: for P above 1 that of P / (P - Q) likewise; else itself.");
        String[] same = {"0", "1", "i", "2", "-2", "2+t-2", "3+t-3", "4+t-4"};
        for (String text : same) {
            e.hold(0, text);
            e.due("name(0, 0, 4)", 1);
            e.due("alike(0, 0, 0, 0)", 3);
        }
        for (String text : new String[] {"3", "-3", "4", "2+t-3", "2+t(3+t2)"}) {
            e.hold(0, text);
            e.hold(1, "m(" + text + ")");
            e.due("name(0, 0, 4)", 0);
            e.due("alike(0, 0, 1, 0)", 2);
        }
    }

    private static void sizeOf(Edge e, String text, int what, long want) {
        e.hold(0, text);
        e.due("name(0, 0, " + what + ")", want);
    }

    private static void sizes(Edge e) {
        e.sentence("SIZE of a NAME: for P above 1 all TERMS of P / Q together; else 0.");
        String[] texts = {"0", "1", "i", "2", "3", "-3", "2+t-2", "2+t(3+t2)", "9+9+6", "m(9+9+6)"};
        long[] want = {0, 0, 0, 2, 3, 3, 4, 5, 24, 24};
        for (int i = 0; i < texts.length; i++) {
            sizeOf(e, texts[i], 2, want[i]);
        }
        e.sentence("GENUS: for P above 1: of EVEN (6) of P / Q, if P or Q is even, else of P / (Q - P), half of how many terms there are,"
                + " cut; else 0.");
        String[] others = {"0", "1", "i", "2", "4", "-4", "3", "-3", "5", "-5", "2+t-2", "9+9+6", "m(9+9+6)", "9+9+5", "m(9+9+5)"};
        // Of -4: 4 / 3 is 2, -2, 2. Of 3: -3 / 2 is -2, 2. Of 24 / 23: 2, -2, .., 23 of them; of 23: 22.
        long[] genus = {0, 0, 0, 0, 0, 1, 1, 1, 2, 2, 1, 0, 11, 11, 11};
        for (int i = 0; i < others.length; i++) {
            sizeOf(e, others[i], 3, genus[i]);
        }
    }

    private static void changes(Edge e) {
        e.sentence("CHANGE of a NAME with P above 1: one of the terms of FLOOR (6) of P / Q becomes 2 less; what that row of terms is then"
                + " (6, PLUS; (1, 0) may come) has SIDE 0, its NAME counts, if its SIZE is lesser.");
        // 9 / 2: 4, 2; the first changed leaves 5 / 2, the other one 1 / 0.
        nameOf(e, "4+t-2", 0, 9, 2, 6, 1, 0, 1, 1);
        // 8 / 5: 1, 1, 1, 2; changed they leave -2 / 5, 2 / -1, 0 / 1 and 2 / 1.
        nameOf(e, "2+t(3+t2)", 0, 8, 5, 5, 1, 0, 1, 2);
        // 3 / 2: 1, 2; the first changed leaves -1 / 2.
        nameOf(e, "-3", 0, 3, 2, 3, 1, 0, 1, 0);
        // 207 / 128: 1, 1, 1, 1, 1, 1, 1, 2, 1, 2; only the change of the seventh leads to nought or one.
        e.due("leaf(0, 2)", 2);
        for (int twists : new int[] {1, 2, 1, 1, 1, 1, 1, 1, 1}) {
            e.fed("turn mirror" + Edge.many(" twist", twists), "moves(0)", 2 + twists);
        }
        // EVEN: 2, -2, -2, 2, 2, -2, 2, 2.
        e.dueEach("name(0, 0, #)", 207, 128, 12, 4, 0, 1, 6);
        e.sentence("UNLINK of a NAME: 0, if P is 0 or 1; else 1 more than the least UNLINK of what comes of a CHANGE.");
        String[] texts = {"0", "1", "i", "t5", "2", "3", "4", "5", "9", "9+2", "9+3", "-2", "-3", "-4", "-5", "2+t-2", "4+t-2"};
        long[] want = {0, 0, 0, 0, 1, 1, 2, 2, 4, 5, 6, 1, 1, 2, 2, 1, 1};
        for (int i = 0; i < texts.length; i++) {
            sizeOf(e, texts[i], 5, want[i]);
        }
        e.sentence("(SIZE above 12: BIG.)");
        nameOf(e, "9+3", 0, 12, 1, 12, 0, 0, 6, 0);
        nameOf(e, "m(9+3)", 0, 12, 11, 12, 5, 0, 6);
        nameOf(e, "9+4", 0, 13, 1, 13, 6, 0, BIG, BIG);
        nameOf(e, "m(9+4)", 0, 13, 12, 13, 6, 0, BIG, BIG);
        nameOf(e, "9+4", 1, 1, 0, 0, 0, 1, 0, NONE);
    }

    private static String whole(int k) {
        return k > 18 ? "9+9+" + (k - 18) : k > 9 ? "9+" + (k - 9) : Integer.toString(k);
    }

    /** 40 names: nought, one, and 3 to 21 with their images. */
    private static void fill(Edge e) {
        e.due("leaf(0, 0)", 0);
        e.due("enter(0, 0)", 1);
        e.due("enter(0, 1)", 1);
        for (int k = 3; k <= 21; k++) {
            e.hold(0, whole(k));
            e.due("enter(0, 0)", 1);
            e.due("move(0, 3)", k);
            e.due("enter(0, 0)", 1);
        }
        e.due("count(3)", 40);
    }

    private static void book(Edge e) {
        e.sentence("THE BOOK: NAMES that were entered, each once, in the order in which they came first, and how often each was; at most 40.");
        long[] entered = {5, 3, 5, -3, 5, 3};
        for (long k : entered) {
            e.due("leaf(0, " + k + ")", Math.abs(k));
            e.due("enter(0, 1)", e.asked("entered(1, 0)") + 1);
            e.due("enter(0, 0)", e.asked("entered(" + Math.abs(k) + ", " + (k < 0 ? 2 : 1) + ")") + 1);
        }
        long[][] want = {{1, 0, 6}, {5, 1, 3}, {3, 1, 2}, {3, 2, 1}};
        for (int i = 0; i < want.length; i++) {
            e.dueEach("book(" + i + ", #)", want[i]);
        }
        e.due("book(4, 0)", NONE);
        e.another();
        fill(e);
        e.due("leaf(0, 2)", 2);
        e.refused("enter(0, 0)", FULL);
        e.due("book(39, 0)", 21);
        e.due("book(39, 1)", 20);
        e.due("book(40, 0)", NONE);
    }

    private static void namePromise(Edge e) {
        e.section("Promise 17");
        e.sentence("Of the NAME of a SIDE of a SLOT: what 0 P, 1 Q, 2 SIZE, 3 GENUS, 4 1 if its GLASS is the same, else 0, 5 UNLINK,"
                + " 6 the least place of a term the CHANGE of which is the first of so few.");
        e.hold(5, "2+t-2");
        e.dueEach("name(5, 0, #)", 5, 2, 4, 1, 1, 1, 0);
        e.dueEach("name(5, 1, #)", 2, 1, 2, 0, 1, 1, 0);
        e.harmless("name(5, 0, 6)", 0);
        e.hold(5, "4+t-2");
        e.due("name(5, 0, 6)", 1);
        e.hold(5, "2+t(3+t2)");
        e.due("name(5, 0, 6)", 2);
        e.hold(5, "9+3");
        e.dueEach("name(5, 0, #)", 12, 1, 12, 0, 0, 6, 0);
        e.sentence("BEYOND.");
        e.hold(0, "t2+t2");
        e.refusedFor("name(#, 0, 0)", BEYOND, Edge.NO_SLOT);
        e.refusedFor("name(1, #, 0)", BEYOND, Edge.NO_SIDE);
        e.refusedFor("name(1, 0, #)", BEYOND, "-1", "7", "MIN", "MAX");
        e.refused("name(0, 0, 7)", BEYOND);
        e.refused("name(0, 2, 0)", BEYOND);
        e.sentence("STATE: the SLOT isn't RATIONAL.");
        for (String text : new String[] {"t2+t2", "i+i", "2*2", "(2*2)+7*2"}) {
            e.another();
            e.hold(0, text);
            for (int side = 0; side < 2; side++) {
                e.refusedFor("name(0, " + side + ", #)", STATE, "0", "1", "2", "3", "4", "5", "6");
            }
        }
        e.sentence("BIG (what 5, 6).");
        e.hold(0, "9+4");
        e.dueEach("name(0, 0, #)", 13, 1, 13, 6, 0);
        e.refused("name(0, 0, 5)", BIG);
        e.refused("name(0, 0, 6)", BIG);
        e.hold(0, "9+9+6");
        e.refused("name(0, 0, 5)", BIG);
        e.refused("name(0, 0, 6)", BIG);
        e.hold(0, "9+3");
        e.due("name(0, 0, 5)", 6);
        e.due("name(0, 0, 6)", 0);
        e.sentence("NONE (what 6): UNLINK is 0.");
        e.refused("name(0, 0, 6)", NONE);
        e.refused("name(0, 1, 6)", NONE);
        e.due("name(0, 0, 5)", 0);
        e.due("leaf(0, 1)", 1);
        e.refused("name(0, 0, 6)", NONE);
        e.due("leaf(0, 2)", 2);
        e.due("name(0, 0, 6)", 0);
        e.refused("name(0, 1, 6)", NONE);
    }

    private static void alikePromise(Edge e) {
        e.section("Promise 18");
        e.sentence("1 if the NAMES of two SIDES are the same, and 2 if the GLASS of the one is the other, together.");
        e.due("leaf(0, 3)", 3);
        e.due("leaf(1, -3)", 3);
        e.hold(2, "2+t-2");
        e.hold(3, "t3");
        e.hold(5, "2+t3");
        e.due("alike(0, 0, 0, 0)", 1);
        e.due("alike(0, 0, 1, 0)", 2);
        e.due("alike(1, 0, 0, 0)", 2);
        e.due("alike(2, 0, 5, 0)", 3);
        e.due("alike(0, 0, 2, 0)", 0);
        e.due("alike(0, 0, 3, 1)", 1);
        e.due("alike(3, 1, 1, 0)", 2);
        e.due("alike(4, 0, 4, 0)", 3);
        e.due("alike(4, 1, 0, 1)", 3);
        e.due("alike(4, 0, 4, 1)", 0);
        e.harmless("alike(0, 0, 1, 0)", 2);
        e.sentence("BEYOND.");
        e.hold(0, "t2+t2");
        e.refusedFor("alike(#, 0, 1, 0)", BEYOND, Edge.NO_SLOT);
        e.refusedFor("alike(1, 0, #, 0)", BEYOND, Edge.NO_SLOT);
        e.refusedFor("alike(1, #, 1, 0)", BEYOND, Edge.NO_SIDE);
        e.refusedFor("alike(1, 0, 1, #)", BEYOND, Edge.NO_SIDE);
        e.refused("alike(0, 0, 0, 2)", BEYOND);
        e.refused("alike(0, 0, 6, 0)", BEYOND);
        e.sentence("STATE: one SLOT isn't RATIONAL.");
        e.hold(0, "t2+t2");
        e.refused("alike(0, 0, 1, 0)", STATE);
        e.refused("alike(1, 0, 0, 0)", STATE);
        e.refused("alike(0, 1, 0, 1)", STATE);
    }

    /** How many there are of each size, and that each stands behind the one ahead by P, then by Q. */
    private static void order(Edge e) {
        long[] many = {1, 2, 3, 6, 10, 20, 36, 72, 136, 272, 528};
        for (int size = 2; size <= 12; size++) {
            e.another();
            e.due("listed(" + size + ", 0, -1)", many[size - 2]);
            long before = 0;
            for (int i = 0; i < many[size - 2]; i++) {
                if (i % 200 == 0) {
                    e.another();
                }
                long name = 1000 * e.asked("listed(" + size + ", " + i + ", 0)") + e.asked("listed(" + size + ", " + i + ", 1)");
                e.isTrue("of size " + size + " the " + i + "-th stands behind the one ahead", name > before);
                before = name;
            }
            e.due("listed(" + size + ", " + many[size - 2] + ", 0)", NONE);
        }
    }

    private static void listedPromise(Edge e) {
        e.section("Promise 19");
        e.sentence("All NAMES of a SIZE (2 to 12), by P, of these by Q: what -1 how many there are; 0 P, 1 Q of the i-th (from 0).");
        long[][][] all = {{{2, 1}}, {{3, 1}, {3, 2}}, {{4, 1}, {4, 3}, {5, 2}},
            {{5, 1}, {5, 4}, {7, 2}, {7, 3}, {8, 3}, {8, 5}}};
        for (int size = 2; size <= 5; size++) {
            long[][] names = all[size - 2];
            e.due("listed(" + size + ", 0, -1)", names.length);
            for (int i = 0; i < names.length; i++) {
                e.due("listed(" + size + ", " + i + ", 0)", names[i][0]);
                e.due("listed(" + size + ", " + i + ", 1)", names[i][1]);
            }
        }
        e.due("listed(12, 0, -1)", 528);
        e.due("listed(12, 0, 0)", 12);
        e.due("listed(12, 0, 1)", 1);
        e.due("listed(12, 1, 1)", 11);
        // 233 / 144 is 1, 1, .., 2; 144 times 89 leaves 1 by 233.
        e.due("listed(12, 527, 0)", 233);
        e.due("listed(12, 527, 1)", 89);
        e.harmless("listed(12, 527, 1)", 89);
        order(e);
        e.sentence("BEYOND: size, what; i below 0 (what 0, 1).");
        e.refusedFor("listed(#, 0, -1)", BEYOND, "1", "13", "0", "-2", "MIN", "MAX");
        e.refusedFor("listed(#, 0, 0)", BEYOND, "1", "13", "MIN", "MAX");
        e.refusedFor("listed(2, 0, #)", BEYOND, "-2", "2", "MIN", "MAX");
        e.refusedFor("listed(2, #, 0)", BEYOND, "-1", "MIN");
        e.refusedFor("listed(2, #, 1)", BEYOND, "-1", "MIN");
        e.due("listed(2, -1, -1)", 1);
        e.due("listed(2, MIN, -1)", 1);
        e.due("listed(2, MAX, -1)", 1);
        e.sentence("NONE: there is no such one.");
        e.refusedFor("listed(2, #, 0)", NONE, "1", "MAX");
        e.refusedFor("listed(5, #, 1)", NONE, "6", "MAX");
        e.refusedFor("listed(12, #, 0)", NONE, "528", "1024", "MAX");
    }

    private static void enterPromise(Edge e) {
        e.section("Promise 20");
        e.sentence("The NAME of a SIDE of a SLOT is entered into THE BOOK: how often it was then.");
        e.due("leaf(5, 3)", 3);
        e.due("enter(5, 0)", 1);
        e.due("enter(5, 1)", 1);
        e.due("enter(5, 0)", 2);
        e.hold(4, "t3");
        e.due("enter(4, 1)", 3);
        e.due("enter(4, 0)", 2);
        e.due("count(3)", 2);
        e.due("count(4)", 5);
        e.dueEach("book(0, #)", 3, 1, 3);
        e.dueEach("book(1, #)", 1, 0, 2);
        e.sentence("BEYOND.");
        e.refusedFor("enter(#, 0)", BEYOND, Edge.NO_SLOT);
        e.refusedFor("enter(0, #)", BEYOND, Edge.NO_SIDE);
        e.hold(0, "t2+t2");
        e.refused("enter(0, 2)", BEYOND);
        e.sentence("STATE: the SLOT isn't RATIONAL.");
        e.hold(0, "t2+t2");
        e.refused("enter(0, 0)", STATE);
        e.refused("enter(0, 1)", STATE);
        e.another();
        fill(e);
        e.hold(0, "t2+t2");
        e.refused("enter(0, 0)", STATE);
        e.sentence("FULL: it is a new one, and there is no room.");
        fill(e);
        e.due("leaf(0, 2)", 2);
        e.refused("enter(0, 0)", FULL);
        e.due("entered(2, 1)", 0);
        e.due("enter(0, 1)", 2);
        e.due("leaf(0, 3)", 3);
        e.due("enter(0, 0)", 2);
        e.due("leaf(0, 2)", 2);
        e.refused("enter(0, 0)", FULL);
        e.due("count(3)", 40);
        e.due("count(4)", 42);
    }

    private static void bookPromise(Edge e) {
        e.section("Promise 21");
        e.sentence("Of the i-th NAME (from 0) of THE BOOK: what 0 P, 1 Q, 2 how often it was entered.");
        e.due("leaf(0, 5)", 5);
        e.due("enter(0, 0)", 1);
        e.due("leaf(0, -3)", 3);
        e.due("enter(0, 0)", 1);
        e.due("enter(0, 0)", 2);
        e.dueEach("book(0, #)", 5, 1, 1);
        e.dueEach("book(1, #)", 3, 2, 2);
        e.harmless("book(1, 2)", 2);
        e.sentence("BEYOND: what.");
        e.refusedFor("book(0, #)", BEYOND, "-1", "3", "MIN", "MAX");
        e.due("enter(0, 0)", 1);
        e.refusedFor("book(0, #)", BEYOND, "-1", "3", "MIN", "MAX");
        e.sentence("NONE: there is no such one.");
        e.refusedFor("book(#, 0)", NONE, "0", "-1", "MIN", "MAX");
        e.due("enter(0, 0)", 1);
        e.due("book(0, 0)", 0);
        e.refusedFor("book(#, 0)", NONE, "1", "-1", "MIN", "MAX");
        e.another();
        fill(e);
        e.due("book(39, 2)", 1);
        e.refusedFor("book(#, 2)", NONE, "40", "-1", "MAX");
    }

    private static void rankedPromise(Edge e) {
        e.section("Promise 22");
        e.sentence("Likewise of the i-th by how often they were entered (most first), of these by P, then by Q.");
        long[] entered = {5, 3, -3, 5, -3, 0, 4, 0, 5};
        for (long k : entered) {
            e.due("leaf(0, " + k + ")", Math.abs(k));
            e.asked("enter(0, 0)");
        }
        long[][] want = {{5, 1, 3}, {0, 1, 2}, {3, 2, 2}, {3, 1, 1}, {4, 1, 1}};
        for (int i = 0; i < want.length; i++) {
            e.dueEach("ranked(" + i + ", #)", want[i]);
        }
        e.harmless("ranked(0, 0)", 5);
        e.refusedFor("ranked(#, 0)", NONE, "5", "-1", "MIN", "MAX");
        e.refusedFor("ranked(0, #)", BEYOND, "-1", "3", "MIN", "MAX");
        e.refused("ranked(5, 3)", BEYOND);
        // Those of one P that came as often stand by Q, whichever came first.
        e.another();
        for (long k : new long[] {-5, 5, 4, -4}) {
            e.due("leaf(0, " + k + ")", Math.abs(k));
            e.due("enter(0, 0)", 1);
        }
        e.dueEach("ranked(#, 0)", 4, 4, 5, 5);
        e.dueEach("ranked(#, 1)", 1, 3, 1, 4);
        e.another();
        e.refused("ranked(0, 0)", NONE);
        fill(e);
        e.due("leaf(0, -9)", 9);
        e.due("enter(0, 0)", 2);
        e.dueEach("ranked(0, #)", 9, 8, 2);
        e.dueEach("ranked(1, #)", 0, 1, 1);
        e.dueEach("ranked(39, #)", 21, 20, 1);
        e.refused("ranked(40, 0)", NONE);
    }

    private static void enteredPromise(Edge e) {
        e.section("Promise 23");
        e.sentence("How often the NAME (p, q) was entered (0 also if there is no such NAME).");
        e.due("entered(0, 1)", 0);
        e.due("enter(0, 0)", 1);
        e.due("enter(0, 1)", 1);
        e.due("leaf(0, 5)", 5);
        e.due("enter(0, 0)", 1);
        e.due("enter(0, 0)", 2);
        e.due("entered(0, 1)", 1);
        e.due("entered(1, 0)", 1);
        e.due("entered(5, 1)", 2);
        e.harmless("entered(5, 4)", 0);
        String[] none = {"5, 6", "5, -1", "-5, 1", "0, 0", "1, 1", "5, 0", "MIN, MIN", "MAX, MAX", "MIN, 1", "0, MAX"};
        for (String pair : none) {
            e.harmless("entered(" + pair + ")", 0);
        }
        e.due("told(1)", 0);
        e.due("told(2)", 0);
    }
}
