/** The 512 calls of an object, what is said of ERRORS, a new object, what is told. */
final class HeadEdges {
    private static final long BEYOND = Edge.BEYOND;
    private static final long NONE = Edge.NONE;
    private static final long STATE = Edge.STATE;
    private static final long FULL = Edge.FULL;
    private static final long KIND = Edge.KIND;
    private static final long BIG = Edge.BIG;

    private HeadEdges() {
    }

    static void run(Edge e) {
        lastCalls(e);
        errors(e);
        orders(e);
        nothingChanges(e);
        newObject(e);
        told(e);
    }

    private static void lastCalls(Edge e) {
        e.section("What it is");
        e.sentence("An object is used for at most 512 calls after it has been made; what later calls answer is free.");
        for (int i = 0; i < 511; i++) {
            e.due("leaf(6, 0)", BEYOND);
        }
        e.due("told(1)", 511);
        e.another();
        for (int i = 1; i <= 512; i++) {
            e.due("enter(0, 0)", i);
        }
        e.another();
        for (int i = 1; i <= 512; i++) {
            e.due("image()", i);
        }
        e.another();
        for (int i = 0; i < 511; i++) {
            e.due("of(0, 0)", Edge.LONG_NONE);
        }
        e.due("told(2)", 511);
        StrandTangles old = new StrandTangles();
        long all = 0;
        for (int i = 0; i < 5000; i++) {
            old.loose(i % 6, 20);
            all += old.feed(i, 8) + old.enter(i % 6, i % 2) + old.colours(i % 6, 0, 13);
        }
        e.isTrue("later calls still answer", all != 0);
    }

    private static void errors(Edge e) {
        e.section("Terms");
        e.sentence("ERRORS are answers below -1000000000: LOW is -1000000000; LOW - 1 BEYOND, LOW - 2 NONE, LOW - 3 STATE,"
                + " LOW - 4 FULL, LOW - 5 KIND, LOW - 6 BIG;");
        e.due("leaf(6, 0)", -1000000001L);
        e.due("restore()", -1000000002L);
        e.due("sheet(0, 8, -1)", -1000000003L);
        e.tape(Edge.many("x", 100));
        e.due("feed(0, 1)", -1000000004L);
        e.due("leaf(0, 2)", 2);
        e.due("linked(0, 0, 0, 0)", -1000000005L);
        e.another();
        e.hold(0, "9+4");
        e.due("name(0, 0, 5)", -1000000006L);

        e.sentence("of longs they are -9000000000000000000 less 1 to 6.");
        e.due("of(4, 0)", -9000000000000000001L);
        e.due("value(4, 0, 0)", -9000000000000000001L);
        e.due("of(0, 0)", -9000000000000000002L);
        e.due("value(0, 0, 0)", -9000000000000000002L);
        e.row(0, Long.MAX_VALUE);
        e.due("value(0, 0, 0)", -9000000000000000006L);
        e.due("told(1)", 2);
        e.due("told(2)", 2);
        e.due("told(6)", 1);
    }

    /** Each call here could answer several ERRORS: it tells the one that is asked first. */
    private static void orders(Edge e) {
        e.sentence("Each act tells its ERRORS in the order in which they are asked;");
        e.hold(0, "i+i");
        e.hold(1, "t2+t2");
        e.due("leaf(2, 9)", 9);
        e.due("join(2, 2, 0, 2)", 18);
        e.refused("slot(0, 9)", BEYOND);
        e.refused("join(2, 2, 0, 6)", BEYOND);
        e.refused("join(2, 2, 2, 0)", BEYOND);
        e.refused("move(2, 6)", BEYOND);
        e.refused("term(0, -2)", BEYOND);
        e.refused("dance(0, -2)", BEYOND);
        e.refused("least(0, 0, 9, 0)", BEYOND);
        e.refused("least(0, 0, 0, 2)", BEYOND);
        e.refused("linked(2, 2, 1, 1)", BEYOND);
        e.refused("linked(2, 1, 1, 1)", NONE);
        e.refused("gauss(0, 0, 2, 0)", BEYOND);
        e.refused("gauss(4, 0, 0, 0)", BEYOND);
        e.refused("name(1, 0, 7)", BEYOND);
        e.refused("name(1, 2, 5)", BEYOND);
        e.refused("alike(1, 0, 2, 2)", BEYOND);
        e.refused("alike(2, 0, 6, 0)", BEYOND);
        e.refused("alike(1, 0, 6, 0)", BEYOND);
        e.refused("listed(13, 99, 0)", BEYOND);
        e.refused("listed(2, 99, 2)", BEYOND);
        e.refused("enter(1, 2)", BEYOND);
        e.refused("book(0, 3)", BEYOND);
        e.refused("ranked(0, 3)", BEYOND);
        e.refused("sheet(4, 8, -1)", BEYOND);
        e.refused("sheet(0, 9, -1)", BEYOND);
        e.refused("sheet(4, 8, 49)", BEYOND);
        e.refused("put(0, 48, 1)", NONE);
        e.refused("of(0, 48)", Edge.LONG_NONE);
        e.refused("shift(0, -1, 4, 0, 1)", BEYOND);
        e.refused("shift(0, -1, 1, 0, 1)", NONE);
        e.refused("terms(0, 999999999, 1000000001, 2)", BEYOND);
        e.refused("terms(0, 51, 49, 2)", STATE);
        e.refused("value(0, 2, 0)", Edge.LONG_BEYOND);
        e.refused("judge(0, 6)", BEYOND);
        e.refused("judge(4, 0)", BEYOND);
        e.refused("loose(6, 21)", BEYOND);
        e.another();
        e.due("sheet(0, 8, 1)", 1);
        e.due("sheet(1, 16, 1)", 1);
        e.refused("shift(0, -1, 1, 0, 1)", KIND);
        e.refused("shift(0, 0, 2, 0, 1)", NONE);
        e.tape(Edge.many("x", 100));
        e.refused("feed(0, 9)", BEYOND);
    }

    private static void everything(Edge e) {
        e.hold(0, "(2+t3)*-1");
        e.hold(1, "t2+t2");
        e.hold(2, "i+i");
        e.due("leaf(3, 9)", 9);
        e.due("join(3, 3, 1, 3)", 18);
        e.hold(4, "9+4");
        e.due("seed(77)", 1);
        e.due("image()", 1);
        e.due("leaf(5, -4)", 4);
        e.due("loose(0, 3)", 3);
        e.due("enter(3, 1)", Edge.STATE);
        e.due("enter(4, 0)", 1);
        e.due("enter(5, 0)", 1);
        e.due("enter(5, 0)", 2);
        e.due("gauss(0, 5, 0, 0)", 4);
        e.due("terms(1, 8, 3, 3)", 3);
        e.due("sheet(2, 16, 0)", 1);
        e.tape("3+t2");
    }

    private static void nothingChanges(Edge e) {
        e.sentence("one that answers an ERROR changes nothing but what told() tells and, where told, THE TAPE.");
        String[] beyond = {"slot(6, 0)", "leaf(0, 11)", "join(0, 0, 0, 6)", "move(0, 6)", "feed(1, 9)", "tangle(6)",
            "moves(-1)", "term(0, -2)", "dance(6, 0)", "least(0, 0, 9, 0)", "link(0, 2, 0)", "crossing(0, 0, 99, 0)",
            "linked(0, 2, 0, 1)", "gauss(0, 0, 2, 0)", "colours(0, 0, 4)", "name(0, 0, 7)", "alike(0, 0, 0, 2)",
            "listed(13, 0, 0)", "enter(0, 2)", "book(0, 3)", "ranked(0, 3)", "sheet(0, 8, 49)", "put(0, 4, 9)",
            "shift(0, 0, 0, 4, 1)", "terms(0, 1, 0, 0)", "judge(4, 0)", "loose(0, 21)", "count(6)", "told(7)"};
        for (String call : beyond) {
            e.another();
            everything(e);
            e.refused(call, BEYOND);
        }
        Object[][] others = {{"slot(2, 7)", NONE}, {"join(3, 3, 0, 0)", FULL}, {"term(2, -1)", NONE},
            {"dance(0, 999999)", NONE}, {"least(2, 0, 8, 0)", NONE}, {"linked(5, 0, 0, 2)", NONE},
            {"linked(5, 0, 0, 0)", KIND}, {"gauss(0, 5, 0, 2)", NONE}, {"name(1, 0, 0)", STATE}, {"name(4, 0, 5)", BIG},
            {"name(5, 1, 6)", NONE}, {"alike(0, 0, 1, 0)", STATE}, {"listed(2, 1, 0)", NONE}, {"enter(1, 0)", STATE},
            {"book(2, 0)", NONE}, {"ranked(2, 0)", NONE}, {"sheet(0, 8, -1)", STATE}, {"put(3, 0, 9)", NONE},
            {"of(3, 0)", Edge.LONG_NONE}, {"of(0, 4)", Edge.LONG_BEYOND}, {"shift(0, 0, 3, 0, 1)", NONE},
            {"shift(0, 0, 1, 0, 1)", KIND}, {"terms(0, 7, 3, 2)", STATE}, {"terms(0, 50, 49, 1)", FULL},
            {"value(2, 0, 0)", Edge.LONG_NONE}, {"value(0, 2, 0)", Edge.LONG_BEYOND}, {"judge(3, 0)", NONE}};
        for (Object[] other : others) {
            e.another();
            everything(e);
            e.refused((String) other[0], (Long) other[1]);
        }
        e.another();
        everything(e);
        e.emptied("moves(0)", -10);
        e.tape("9+9+7");
        e.emptied("tangle(0)", FULL);
        e.tape("turn twist");
        e.due("moves(0)", 2);
        e.due("leaf(1, 6)", 6);
        e.due("join(3, 1, 0, 3)", 24);
        e.tape("turn twist");
        e.emptied("moves(3)", FULL);
        e.refused("move(3, 0)", FULL);
    }

    private static void newObject(Edge e) {
        e.section("Promise 1");
        e.sentence("All as at first.");
        for (int slot = 0; slot < 6; slot++) {
            e.dueEach("slot(" + slot + ", #)", 1, 0, 1, 1, 0, 1, 1, 0, 1);
        }
        e.dueEach("count(#)", 0, 6, 0, 0, 0, 1);
        for (int k = 1; k <= 6; k++) {
            e.due("told(" + k + ")", 0);
        }
        for (int sheet = 0; sheet < 4; sheet++) {
            e.due("of(" + sheet + ", 0)", Edge.LONG_NONE);
        }
        e.due("book(0, 0)", NONE);
        e.due("ranked(0, 0)", NONE);
        e.due("entered(0, 1)", 0);
        e.due("restore()", NONE);
        e.due("image()", 1);
        e.another();
        e.due("tangle(0)", -10);
        e.due("seed(9)", 1);
        otherObject(e);
    }

    /** Nothing of an object that was used before comes to a new one, nor of a new one to it. */
    private static void otherObject(Edge e) {
        StrandTangles used = new StrandTangles();
        used.leaf(0, 7);
        used.seed(5);
        used.image();
        used.sheet(0, 8, 3);
        used.feed(49, 1);
        used.enter(0, 0);
        used.told(0);
        StrandTangles fresh = new StrandTangles();
        e.isTrue("slots, z, tape, book, errors of a new one", fresh.count(0) == 0 && fresh.count(5) == 1
                && fresh.count(2) == 0 && fresh.count(3) == 0 && fresh.told(1) == 0);
        e.isTrue("sheets, image of a new one", fresh.of(0, 0) == Edge.LONG_NONE && fresh.restore() == NONE);
        fresh.leaf(0, 2);
        fresh.seed(6);
        fresh.sheet(0, 0, 0);
        e.isTrue("the used one keeps its own", used.count(0) == 7 && used.count(5) == 5 && used.count(2) == 1
                && used.count(3) == 1 && used.told(1) == 1 && used.of(0, 2) == 0 && used.restore() == 7);
    }

    private static void told(Edge e) {
        e.section("Promise 36");
        e.sentence("How many acts have answered an ERROR LOW - k (k 1 to 6; of longs likewise);");
        e.due("told(1)", 0);
        e.due("told(6)", 0);
        e.due("leaf(6, 0)", BEYOND);
        e.due("of(4, 0)", Edge.LONG_BEYOND);
        e.due("restore()", NONE);
        e.due("of(0, 0)", Edge.LONG_NONE);
        e.due("value(0, 0, 0)", Edge.LONG_NONE);
        e.due("sheet(0, 8, -1)", STATE);
        e.due("terms(0, 50, 49, 1)", FULL);
        e.due("leaf(0, 2)", 2);
        e.due("linked(0, 0, 1, 1)", KIND);
        e.row(0, Long.MIN_VALUE);
        e.due("value(0, 1, 0)", Edge.LONG_BIG);
        e.hold(1, "9+4");
        e.due("name(1, 0, 6)", BIG);
        long[] want = {2, 3, 1, 1, 1, 2};
        for (int round = 0; round < 2; round++) {
            for (int k = 1; k <= 6; k++) {
                e.due("told(" + k + ")", want[k - 1]);
            }
        }
        e.another();
        e.due("seed(-1000000001)", 1);
        e.due("count(5)", -1000000001L);
        e.due("seed(-1000000002)", -1000000001L);
        e.row(0, Edge.LONG_BEYOND);
        e.due("of(0, 0)", Edge.LONG_BEYOND);
        e.due("value(0, 0, 1)", Edge.LONG_BIG);
        e.tape("x");
        e.due("tangle(0)", -10);
        e.tape("x");
        e.due("moves(0)", -10);
        e.due("entered(-1, -1)", 0);
        e.due("told(1)", 0);
        e.due("told(2)", 0);
        e.due("told(6)", 1);

        e.sentence("BEYOND: another k (counted, too).");
        e.refused("told(0)", BEYOND);
        e.due("told(1)", 1);
        e.refusedFor("told(#)", BEYOND, "7", "-1", "MIN", "MAX");
        e.due("told(1)", 5);
        e.due("told(6)", 0);
    }
}
