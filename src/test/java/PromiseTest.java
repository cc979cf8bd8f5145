import java.util.ArrayList;
import java.util.List;

/** One part for each promise: ordinary inputs, the edges that the document names, wrong inputs. */
public final class PromiseTest {
    private static final int LOW = -1000000000;
    private static final int BEYOND = LOW - 1;
    private static final int NONE = LOW - 2;
    private static final int STATE = LOW - 3;
    private static final int FULL = LOW - 4;
    private static final int KIND = LOW - 5;
    private static final int BIG = LOW - 6;
    private static final long LONG_LOW = -9000000000000000000L;

    private static final Checks CHECKS = new Checks();
    private static StrandTangles x = new StrandTangles();
    private static int promise = 0;

    private PromiseTest() {
    }

    private static void promise(int number) {
        promise = number;
        x = new StrandTangles();
    }

    private static void due(String call, long got, long want) {
        CHECKS.due("promise " + promise + ": " + call, got, want);
    }

    private static void feed(String s) {
        List<Draws.Call> calls = new ArrayList<>();
        Draws.feed(calls, s);
        for (Draws.Call c : calls) {
            x.feed(c.args[0], (int) c.args[1]);
        }
    }

    private static int tangle(int slot, String text) {
        feed(text);
        return x.tangle(slot);
    }

    private static int moves(int slot, String row) {
        feed(row);
        return x.moves(slot);
    }

    private static void pair(int slot, int top, int bottom) {
        due("top of slot " + slot, x.slot(slot, 4), top);
        due("bottom of slot " + slot, x.slot(slot, 5), bottom);
    }

    private static void fraction(int slot, int top, int bottom) {
        due("fraction's top of slot " + slot, x.slot(slot, 7), top);
        due("fraction's bottom of slot " + slot, x.slot(slot, 8), bottom);
    }

    private static void numbers(int sheet, long... want) {
        for (int i = 0; i < want.length; i++) {
            due("of(" + sheet + ", " + i + ")", x.of(sheet, i), want[i]);
        }
        due("of(" + sheet + ", " + want.length + ")", x.of(sheet, want.length), LONG_LOW - 1);
    }

    public static void main(String[] args) {
        newObject();
        slots();
        leaves();
        joins();
        oneMove();
        feeds();
        texts();
        rowsOfMoves();
        terms();
        dances();
        leastRows();
        links();
        crossings();
        linkings();
        gauss();
        colours();
        names();
        alike();
        listed();
        bookOfNames();
        rankedNames();
        sheets();
        shifts();
        rowsOfTerms();
        values();
        judges();
        draws();
        images();
        counts();
        told();
        CHECKS.end();
    }

    private static void newObject() {
        promise(1);
        for (int slot = 0; slot < 6; slot++) {
            due("leaves", x.slot(slot, 0), 1);
            due("crossings", x.slot(slot, 1), 0);
            due("parts", x.slot(slot, 2), 1);
            due("depth", x.slot(slot, 3), 1);
            pair(slot, 0, 1);
        }
        int[] counts = {0, 6, 0, 0, 0, 1};
        for (int what = 0; what < 6; what++) {
            due("count(" + what + ")", x.count(what), counts[what]);
        }
        for (int k = 1; k <= 6; k++) {
            due("told(" + k + ")", x.told(k), 0);
        }
        for (int sheet = 0; sheet < 4; sheet++) {
            due("of(" + sheet + ", 0)", x.of(sheet, 0), LONG_LOW - 2);
        }
        due("restore()", x.restore(), NONE);
        due("book(0, 0)", x.book(0, 0), NONE);
    }

    private static void slots() {
        promise(2);
        tangle(0, "(3+t2)*m-1");
        due("leaves", x.slot(0, 0), 3);
        due("crossings", x.slot(0, 1), 6);
        due("parts", x.slot(0, 2), 7);
        due("depth", x.slot(0, 3), 4);
        // t2 is (-1, 2), 3 + that (5, 2), m-1 is (1, 1), the stack (5, 5 + 2).
        pair(0, 5, 7);
        due("rational", x.slot(0, 6), 1);
        fraction(0, 5, 7);
        tangle(1, "t2+t2");
        pair(1, -4, 4);
        due("rational", x.slot(1, 6), 0);
        fraction(1, -1, 1);
        tangle(2, "m(i*t-3)");
        // t-3 is (-1, -3); i * that is (-1, -3); its mirror (1, -3).
        pair(2, 1, -3);
        fraction(2, -1, 3);
        tangle(3, "mi");
        pair(3, -1, 0);
        fraction(3, 1, 0);
        tangle(4, "0*0");
        pair(4, 0, 0);
        due("no fraction's top", x.slot(4, 7), NONE);
        due("no fraction's bottom", x.slot(4, 8), NONE);
        due("rational", x.slot(4, 6), 0);
        tangle(5, "tt3");
        pair(5, -3, -1);
        fraction(5, 3, 1);
        tangle(5, "t-1");
        pair(5, -1, -1);
        due("slot(-1, 0)", x.slot(-1, 0), BEYOND);
        due("slot(6, 0)", x.slot(6, 0), BEYOND);
        due("slot(0, -1)", x.slot(0, -1), BEYOND);
        due("slot(0, 9)", x.slot(0, 9), BEYOND);
    }

    private static void leaves() {
        promise(3);
        for (int k = -9; k <= 9; k++) {
            due("leaf(5, " + k + ")", x.leaf(5, k), Math.abs(k));
            pair(5, k, 1);
        }
        due("leaf(5, 10)", x.leaf(5, 10), 0);
        pair(5, 1, 0);
        due("leaf(5, -10)", x.leaf(5, -10), BEYOND);
        due("leaf(5, 11)", x.leaf(5, 11), BEYOND);
        due("leaf(6, 1)", x.leaf(6, 1), BEYOND);
        due("leaf(-1, 1)", x.leaf(-1, 1), BEYOND);
        pair(5, 1, 0);
        x.move(5, 2);
        due("leaf(5, 2)", x.leaf(5, 2), 2);
        due("parts", x.slot(5, 2), 1);
        due("depth", x.slot(5, 3), 1);
    }

    private static void joins() {
        promise(4);
        x.leaf(0, 2);
        x.leaf(1, -3);
        due("join(0, 1, 0, 2)", x.join(0, 1, 0, 2), 5);
        pair(2, -1, 1);
        due("join(0, 1, 1, 2)", x.join(0, 1, 1, 2), 5);
        pair(2, -6, -1);
        due("join(0, 0, 0, 0)", x.join(0, 0, 0, 0), 4);
        pair(0, 4, 1);
        due("parts", x.slot(0, 2), 3);
        due("join(0, 1, 1, 0)", x.join(0, 1, 1, 0), 7);
        pair(0, -12, 1);
        due("depth", x.slot(0, 3), 3);
        x.leaf(3, 9);
        due("join(3, 3, 0, 3)", x.join(3, 3, 0, 3), 18);
        x.leaf(4, 6);
        due("24 crossings", x.join(3, 4, 0, 5), 24);
        x.leaf(4, 7);
        due("25 crossings", x.join(3, 4, 0, 5), FULL);
        due("slot(5, 1)", x.slot(5, 1), 24);
        due("join(5, 5, 1, 0)", x.join(5, 5, 1, 0), FULL);
        x.leaf(0, 0);
        x.join(0, 0, 0, 1);
        x.join(1, 1, 0, 1);
        x.join(1, 1, 0, 1);
        due("16 leaves", x.join(1, 1, 0, 2), 0);
        due("24 leaves", x.join(2, 1, 0, 2), 0);
        due("leaves", x.slot(2, 0), 24);
        due("parts", x.slot(2, 2), 47);
        due("25 leaves", x.join(2, 0, 0, 3), FULL);
        x.leaf(3, 0);
        for (int i = 0; i < 58; i++) {
            x.move(3, 2);
        }
        due("61 parts", x.join(3, 0, 0, 4), FULL);
        x.leaf(3, 0);
        for (int i = 0; i < 57; i++) {
            x.move(3, 2);
        }
        due("60 parts", x.join(3, 0, 0, 4), 0);
        due("parts", x.slot(4, 2), 60);
        due("depth", x.slot(4, 3), 59);
        due("join(6, 0, 0, 0)", x.join(6, 0, 0, 0), BEYOND);
        due("join(0, -1, 0, 0)", x.join(0, -1, 0, 0), BEYOND);
        due("join(0, 0, 2, 0)", x.join(0, 0, 2, 0), BEYOND);
        due("join(0, 0, -1, 0)", x.join(0, 0, -1, 0), BEYOND);
        due("join(4, 4, 0, 6)", x.join(4, 4, 0, 6), BEYOND);
    }

    private static void oneMove() {
        promise(5);
        x.leaf(0, 3);
        due("twist", x.move(0, 0), 4);
        pair(0, 4, 1);
        due("untwist", x.move(0, 1), 5);
        pair(0, 3, 1);
        due("turn", x.move(0, 2), 5);
        pair(0, -1, 3);
        due("mirror", x.move(0, 3), 5);
        pair(0, 1, 3);
        // x * 1 is (a, a + b), x * -1 is (-a, a - b).
        due("drop", x.move(0, 4), 6);
        pair(0, 1, 4);
        due("lift", x.move(0, 5), 7);
        pair(0, -1, -3);
        due("parts", x.slot(0, 2), 11);
        due("depth", x.slot(0, 3), 7);
        due("move(0, 6)", x.move(0, 6), BEYOND);
        due("move(0, -1)", x.move(0, -1), BEYOND);
        due("move(6, 0)", x.move(6, 0), BEYOND);
        x.leaf(1, 9);
        x.join(1, 1, 0, 1);
        for (int i = 0; i < 6; i++) {
            due("twist", x.move(1, i % 2), 19 + i);
        }
        due("no room for a crossing", x.move(1, 4), FULL);
        due("room for a turn", x.move(1, 2), 24);
        x.leaf(2, 0);
        for (int i = 0; i < 58; i++) {
            due("turn or mirror", x.move(2, 2 + i % 2), 0);
        }
        due("61 parts", x.move(2, 0), FULL);
        due("60 parts", x.move(2, 3), 0);
        due("parts", x.slot(2, 2), 60);
        due("61 parts", x.move(2, 2), FULL);
    }

    private static void feeds() {
        promise(6);
        due("feed('1', 1)", x.feed(0x7777777777777731L, 1), 1);
        due("feed(.., 0)", x.feed(0, 0), BEYOND);
        due("feed(.., 9)", x.feed(0, 9), BEYOND);
        due("feed(.., -1)", x.feed(0, -1), BEYOND);
        due("the lowest byte first", x.feed(0x332B322BL, 4), 5);
        due("tangle(0)", x.tangle(0), 6);
        due("feed(-1, 8)", x.feed(-1L, 8), 8);
        for (int i = 2; i <= 12; i++) {
            due("feed(0, 8)", x.feed(0, 8), 8 * i);
        }
        due("too many", x.feed(0, 5), FULL);
        due("count(2)", x.count(2), 96);
        due("just enough", x.feed(0, 4), 100);
        due("too many", x.feed(0, 1), FULL);
        due("its first byte is wrong", x.tangle(0), -10);
        due("count(2)", x.count(2), 0);
    }

    private static void texts() {
        promise(7);
        due("1+2*3", tangle(0, "1+2*3"), 6);
        // 2 * 3 is (6, 5), 1 + that (11, 5).
        pair(0, 11, 5);
        due("(1+2)*3", tangle(0, "(1+2)*3"), 6);
        pair(0, 9, 6);
        due("from the left", tangle(0, "1+2+3"), 6);
        due("depth", x.slot(0, 3), 3);
        due("from the left", tangle(0, "(1+2)+3"), 6);
        due("depth", x.slot(0, 3), 3);
        due("t1*2 turns 1 alone", tangle(0, "t1*2"), 3);
        pair(0, -2, 1);
        due("mt-2", tangle(0, "mt-2"), 2);
        pair(0, 1, -2);
        due("i", tangle(0, "i"), 0);
        pair(0, 1, 0);
        due("-0", tangle(0, "-0"), 0);
        String[] wrong = {"", "+", "3+", "3-", "12", "--1", "-i", "-(1)", "(1", "()", "1)", "(1))", "1 ", "t", "mt+1",
            "3**2", "i1", "i(1)", "1t2", "((((((1))))))", "(((((((1)))))))", "tttttt1", "tmtmtmt1", "t(t(t(1)))",
            "t(t(t(t1)))", "t1+t1+t1+t1+t1+t1+t1+t1", "(t1*(1)+t((((1)))))", "(t1*(1)+t(((((1))))))", "-"};
        int[] due = {0, 0, 2, 1, 1, 1, 1, 1, 2, 1, 1, 3, 1, 1, 2,
            2, 1, 1, 1, -1, 6, -1, 6, -1,
            6, -1, -1, 13, 1};
        for (int i = 0; i < wrong.length; i++) {
            x.leaf(1, 7);
            int got = tangle(1, wrong[i]);
            if (due[i] >= 0) {
                due(wrong[i], got, -10 - due[i]);
                due("the slot stays", x.slot(1, 4), 7);
            } else {
                CHECKS.isTrue(wrong[i] + " is a text", got >= 0);
            }
            due("the tape is empty", x.count(2), 0);
        }
        feed("2");
        due("tangle(6)", x.tangle(6), BEYOND);
        due("tangle(-1)", x.tangle(-1), BEYOND);
        due("the tape stays", x.count(2), 1);
        due("tangle(2)", x.tangle(2), 2);
        due("24 crossings", tangle(2, "9+9+6"), 24);
        due("25 crossings", tangle(2, "9+9+7"), FULL);
        due("the slot stays", x.slot(2, 4), 24);
        due("the tape is empty", x.count(2), 0);
        due("24 leaves", tangle(2, "0" + "+0".repeat(23)), 0);
        due("25 leaves", tangle(2, "0" + "+0".repeat(24)), FULL);
        due("60 parts", tangle(2, "ttttt0" + "+t0".repeat(18)), 0);
        due("parts", x.slot(2, 2), 60);
        due("61 parts", tangle(2, "tttttt0" + "+t0".repeat(18)), FULL);
        due("parts", x.slot(2, 2), 60);
        due("a fault is asked ahead of room", tangle(2, "9+9+9+"), -16);
        due("100 bytes", tangle(2, "(".repeat(6) + "0" + ")".repeat(6) + "+mmmm0".repeat(14) + "+0*"), -110);
    }

    private static void rowsOfMoves() {
        promise(8);
        due("all moves", moves(0, "twist untwist turn mirror drop lift"), 6);
        // 0, 1, 0, 1 / 0 as (-1, 0), (1, 0), (1, 1), (-1, 0).
        pair(0, -1, 0);
        due("crossings", x.slot(0, 1), 4);
        due("none", moves(0, ""), 0);
        due("blanks alone", moves(0, "   "), 0);
        due("blanks around", moves(0, "  turn   turn "), 2);
        pair(0, 1, 0);
        String[] wrong = {"twis", "twistt", "Turn", "turn drop lft turn", " x", "turn\tturn", "twist,drop", "turn turns"};
        int[] due = {0, 0, 0, 10, 1, 0, 0, 5};
        for (int i = 0; i < wrong.length; i++) {
            due(wrong[i], moves(0, wrong[i]), -10 - due[i]);
            pair(0, 1, 0);
            due("the tape is empty", x.count(2), 0);
        }
        feed("turn");
        due("moves(6)", x.moves(6), BEYOND);
        due("the tape stays", x.count(2), 4);
        due("moves(1)", x.moves(1), 1);
        tangle(2, "9+9+5");
        due("one more", moves(2, "turn twist"), 2);
        tangle(2, "9+9+5");
        due("two more", moves(2, "turn twist drop"), FULL);
        due("the slot stays", x.slot(2, 2), 5);
        due("the tape is empty", x.count(2), 0);
        due("a wrong word is asked ahead of room", moves(2, "twist twist twist no"), -28);
    }

    private static void termsOf(int slot, int... want) {
        due("how many terms", x.term(slot, -1), want.length);
        for (int i = 0; i < want.length; i++) {
            due("term(" + slot + ", " + i + ")", x.term(slot, i), want[i]);
        }
        due("no such term", x.term(slot, want.length), NONE);
    }

    private static void terms() {
        promise(9);
        termsOf(0, 0);
        x.leaf(0, 1);
        termsOf(0, 1);
        x.leaf(0, -4);
        termsOf(0, -4);
        x.leaf(0, 10);
        termsOf(0);
        tangle(0, "t-2");
        termsOf(0, 0, 1, 1);
        tangle(0, "t2");
        termsOf(0, 0, -1, -1);
        tangle(0, "2+t-3");
        termsOf(0, 2, 2, 1);
        tangle(0, "m(1+tm(1+t-2))");
        // 1 + 1 / 2 is 3 / 2, mirrored and turned 2 / 3, 1 more 5 / 3.
        termsOf(0, -1, -1, -2);
        tangle(0, "t2+t2");
        termsOf(0, -1);
        tangle(0, "i+i");
        due("no fraction", x.term(0, -1), NONE);
        due("no fraction", x.term(0, 0), NONE);
        due("term(6, 0)", x.term(6, 0), BEYOND);
        due("term(-1, 0)", x.term(-1, 0), BEYOND);
        due("term(0, -2)", x.term(0, -2), BEYOND);
        due("term(1, MAX)", x.term(1, Integer.MAX_VALUE), NONE);
    }

    private static void danceOf(int slot, String want) {
        due("how many moves", x.dance(slot, -1), want.length());
        for (int i = 0; i < want.length(); i++) {
            due("dance(" + slot + ", " + i + ")", x.dance(slot, i), want.charAt(i) - '0');
        }
        due("no such move", x.dance(slot, want.length()), NONE);
    }

    private static void dances() {
        promise(10);
        danceOf(0, "");
        x.leaf(0, 10);
        danceOf(0, "2");
        x.leaf(0, -3);
        danceOf(0, "000");
        x.leaf(0, 1);
        danceOf(0, "20");
        x.leaf(0, 3);
        danceOf(0, "20200200");
        tangle(0, "t-3");
        danceOf(0, "2000");
        tangle(0, "2+t-2");
        // 5 / 2, -2 / 5, 3 / 5, -5 / 3, -2 / 3, 1 / 3, -3, -2, -1, 0.
        danceOf(0, "202002000");
        tangle(0, "m(2+t-2)");
        danceOf(0, "000" + "2" + "00");
        tangle(0, "9+9+6");
        due("of 24", x.dance(0, -1), 3 * 24 - 1);
        tangle(0, "i+i");
        due("no fraction", x.dance(0, -1), NONE);
        due("dance(6, 0)", x.dance(6, 0), BEYOND);
        due("dance(1, -2)", x.dance(1, -2), BEYOND);
        due("dance(1, MAX)", x.dance(1, Integer.MAX_VALUE), NONE);
    }

    private static void leastRows() {
        promise(11);
        x.leaf(1, 2);
        x.leaf(2, -8);
        x.leaf(3, 10);
        tangle(4, "i+i");
        due("how many", x.least(0, 1, 8, 0), 2);
        due("which", x.least(0, 1, 2, 1), 100);
        due("too few", x.least(0, 1, 1, 0), NONE);
        due("back", x.least(1, 0, 8, 1), 111);
        due("the same", x.least(3, 3, 0, 0), 0);
        due("the same", x.least(3, 3, 8, 1), 1);
        due("a turn", x.least(0, 3, 8, 1), 12);
        due("a turn back", x.least(3, 0, 8, 1), 12);
        due("8 moves", x.least(0, 2, 8, 1), 111111111);
        due("7 moves", x.least(0, 2, 7, 1), NONE);
        due("from nothing", x.least(4, 0, 8, 0), NONE);
        due("to nothing", x.least(0, 4, 8, 0), NONE);
        x.leaf(5, 1);
        x.leaf(4, -1);
        // From 1 to -1: TURN alone.
        due("1 to -1", x.least(5, 4, 8, 1), 12);
        tangle(4, "t-2");
        // 2, -1 / 2, 1 / 2 comes ahead of -1, -2, 1 / 2.
        due("1 to 1 / 2", x.least(5, 4, 8, 1), 1020);
        due("least(6, 0, 0, 0)", x.least(6, 0, 0, 0), BEYOND);
        due("least(0, 6, 0, 0)", x.least(0, 6, 0, 0), BEYOND);
        due("least(0, 0, 9, 0)", x.least(0, 0, 9, 0), BEYOND);
        due("least(0, 0, -1, 0)", x.least(0, 0, -1, 0), BEYOND);
        due("least(0, 0, 0, 2)", x.least(0, 0, 0, 2), BEYOND);
        due("least(0, 0, 0, -1)", x.least(0, 0, 0, -1), BEYOND);
    }

    private static void linkOf(int slot, int side, int components, int circles, int arcs, int writhe, int value) {
        int[] want = {components, circles, arcs, writhe, value};
        for (int what = 0; what < want.length; what++) {
            due("link(" + slot + ", " + side + ", " + what + ")", x.link(slot, side, what), want[what]);
        }
    }

    private static void links() {
        promise(12);
        linkOf(0, 0, 0, 2, 2, 0, 0);
        linkOf(0, 1, 0, 1, 1, 0, 1);
        x.leaf(0, 3);
        // All go to the east: a trefoil.
        linkOf(0, 0, 1, 0, 3, 3, 3);
        // NE, SE of the last are joined: one strand comes back to the west through each.
        linkOf(0, 1, 1, 0, 3, -3, 1);
        x.leaf(0, -3);
        linkOf(0, 0, 1, 0, 3, -3, 3);
        x.leaf(0, 1);
        linkOf(0, 0, 1, 0, 1, 1, 1);
        tangle(0, "m1+i+i+0");
        // i + i has one circle between them; side 1 makes one of the last i and 0.
        linkOf(0, 0, 1, 1, 2, 1, 0);
        linkOf(0, 1, 1, 2, 3, 1, 0);
        tangle(0, "1+-1");
        // Two curves, one over at both crossings: it is one arc, the other one two.
        linkOf(0, 0, 2, 0, 3, 0, 0);
        tangle(0, "9+9+6");
        linkOf(0, 0, 2, 0, 24, 24, 24);
        tangle(0, "i+i+i");
        linkOf(0, 0, 0, 3, 3, 0, 0);
        linkOf(0, 1, 0, 4, 4, 0, 0);
        due("link(6, 0, 0)", x.link(6, 0, 0), BEYOND);
        due("link(0, 2, 0)", x.link(0, 2, 0), BEYOND);
        due("link(0, -1, 0)", x.link(0, -1, 0), BEYOND);
        due("link(0, 0, 5)", x.link(0, 0, 5), BEYOND);
        due("link(0, 0, -1)", x.link(0, 0, -1), BEYOND);
    }

    private static void crossings() {
        promise(13);
        x.leaf(0, 2);
        due("over at 0", x.crossing(0, 0, 0, 0), 0);
        due("under at 0", x.crossing(0, 0, 0, 1), 1);
        due("over at 1", x.crossing(0, 0, 1, 0), 1);
        due("under at 1", x.crossing(0, 0, 1, 1), 0);
        due("sign", x.crossing(0, 0, 0, 2), 1);
        x.leaf(0, -2);
        due("over at 0", x.crossing(0, 0, 0, 0), 0);
        due("over at 1", x.crossing(0, 0, 1, 0), 1);
        due("sign", x.crossing(0, 0, 1, 2), -1);
        tangle(0, "m(m2+-1+3)");
        // As if the leaves were 2, 1, -3: all go to the east.
        int[] signs = {1, 1, 1, -1, -1, -1};
        for (int c = 0; c < 6; c++) {
            due("sign " + c, x.crossing(0, 0, c, 2), signs[c]);
        }
        due("crossing(0, 0, 6, 0)", x.crossing(0, 0, 6, 0), BEYOND);
        due("crossing(0, 0, -1, 0)", x.crossing(0, 0, -1, 0), BEYOND);
        due("crossing(0, 0, 0, 3)", x.crossing(0, 0, 0, 3), BEYOND);
        due("crossing(0, 0, 0, -1)", x.crossing(0, 0, 0, -1), BEYOND);
        due("crossing(0, 2, 0, 0)", x.crossing(0, 2, 0, 0), BEYOND);
        due("crossing(6, 0, 0, 0)", x.crossing(6, 0, 0, 0), BEYOND);
        due("a leaf without one", x.crossing(1, 0, 0, 0), BEYOND);
    }

    private static void linkings() {
        promise(14);
        x.leaf(0, 6);
        due("linked", x.linked(0, 0, 0, 1), 3);
        due("the other way", x.linked(0, 0, 1, 0), 3);
        x.leaf(0, -2);
        due("linked", x.linked(0, 0, 0, 1), -1);
        tangle(0, "1+-1");
        due("not linked", x.linked(0, 0, 0, 1), 0);
        due("they are one", x.linked(0, 0, 1, 1), KIND);
        due("no such one", x.linked(0, 0, 0, 2), NONE);
        due("no such one", x.linked(0, 0, -1, 0), NONE);
        due("none ahead of one", x.linked(0, 0, 2, 2), NONE);
        due("side 1 has one", x.linked(0, 1, 0, 1), NONE);
        due("linked(6, 0, 0, 1)", x.linked(6, 0, 0, 1), BEYOND);
        due("linked(0, 2, 0, 1)", x.linked(0, 2, 0, 1), BEYOND);
        due("circles don't count", x.linked(1, 0, 0, 1), NONE);
    }

    private static void gauss() {
        promise(15);
        x.leaf(0, 3);
        due("trefoil", x.gauss(0, 0, 0, 0), 6);
        numbers(0, 1, -2, 3, -1, 2, -3);
        x.leaf(0, -3);
        due("its image", x.gauss(0, 0, 0, 0), 6);
        numbers(0, 1, -2, 3, -1, 2, -3);
        x.leaf(0, 2);
        due("first", x.gauss(1, 0, 0, 0), 2);
        numbers(1, 1, -2);
        due("second", x.gauss(1, 0, 0, 1), 2);
        numbers(1, -1, 2);
        x.leaf(0, 2);
        due("side 1", x.gauss(1, 0, 1, 0), 4);
        // NW SE over at 0, NE SW under at 1, back by NE SE over at 1, SW NE under at 0.
        numbers(1, 1, -2, 2, -1);
        x.put(1, 0, 128);
        due("8 bits", x.of(1, 0), -128);
        tangle(0, "9+9+5");
        due("46 passes", x.gauss(2, 0, 0, 0), 46);
        x.sheet(2, 64, 3);
        due("gauss(2, 0, 0, 1)", x.gauss(2, 0, 0, 1), NONE);
        due("gauss(2, 0, 0, -1)", x.gauss(2, 0, 0, -1), NONE);
        due("gauss(4, 0, 0, 0)", x.gauss(4, 0, 0, 0), BEYOND);
        due("gauss(-1, 0, 0, 0)", x.gauss(-1, 0, 0, 0), BEYOND);
        due("gauss(2, 6, 0, 0)", x.gauss(2, 6, 0, 0), BEYOND);
        due("gauss(2, 0, 2, 0)", x.gauss(2, 0, 2, 0), BEYOND);
        numbers(2, 0, 0, 0);
        due("circles don't count", x.gauss(2, 5, 0, 0), NONE);
    }

    private static void colours() {
        promise(16);
        int[] primes = {2, 3, 5, 7, 11, 13};
        for (int p : primes) {
            due("two circles by " + p, x.colours(0, 0, p), 2);
            due("one circle by " + p, x.colours(0, 1, p), 1);
        }
        for (int k = 1; k <= 9; k++) {
            x.leaf(0, k);
            for (int p : primes) {
                due(k + " by " + p, x.colours(0, 0, p), k % p == 0 ? 2 : 1);
                due(k + " turned by " + p, x.colours(0, 1, p), 1);
            }
        }
        tangle(0, "t3+t3+t3");
        // 27 / 27: three columns of three; 3 divides it.
        due("t3+t3+t3 by 3", x.colours(0, 0, 3), 3);
        due("t3+t3+t3 by 2", x.colours(0, 0, 2), 1);
        tangle(0, "i+3+i");
        // The ends of 3 are joined by i and i: a curve; a circle on the west, one on the east.
        due("i+3+i by 7", x.colours(0, 1, 7), 3);
        for (int p : new int[] {-3, 0, 1, 4, 6, 9, 12, 14, 17, Integer.MIN_VALUE}) {
            due("by " + p, x.colours(0, 0, p), BEYOND);
        }
        due("colours(6, 0, 3)", x.colours(6, 0, 3), BEYOND);
        due("colours(0, 2, 3)", x.colours(0, 2, 3), BEYOND);
    }

    private static void nameOf(int slot, int side, int... want) {
        for (int what = 0; what < want.length; what++) {
            due("name(" + slot + ", " + side + ", " + what + ")", x.name(slot, side, what), want[what]);
        }
    }

    private static void names() {
        promise(17);
        nameOf(0, 0, 0, 1, 0, 0, 1, 0, NONE);
        nameOf(0, 1, 1, 0, 0, 0, 1, 0, NONE);
        x.leaf(0, 10);
        nameOf(0, 0, 1, 0, 0, 0, 1, 0, NONE);
        nameOf(0, 1, 0, 1, 0, 0, 1, 0, NONE);
        x.leaf(0, 2);
        nameOf(0, 0, 2, 1, 2, 0, 1, 1, 0);
        x.leaf(0, -3);
        nameOf(0, 0, 3, 2, 3, 1, 0, 1, 0);
        tangle(0, "2+t-2");
        // Figure eight: 5 / 2, its own image; terms 2, 2.
        nameOf(0, 0, 5, 2, 4, 1, 1, 1, 0);
        nameOf(0, 1, 2, 1, 2, 0, 1, 1, 0);
        x.leaf(0, 7);
        nameOf(0, 0, 7, 1, 7, 3, 0, 3, 0);
        x.leaf(0, -7);
        // 7 / 6: terms 1, 6; the first becomes -1: -5 / 6, which is 5 / 4.
        nameOf(0, 0, 7, 6, 7, 3, 0, 3, 0);
        x.leaf(0, 2);
        moves(0, "turn mirror twist turn mirror twist turn mirror twist");
        // 8 / 5: terms 1, 1, 1, 2; only the third one's change leads to nought.
        nameOf(0, 0, 8, 5, 5, 1, 0, 1, 2);
        tangle(0, "2+t-3");
        // 7 / 3: 3 times 5 leaves 1 by 7. Both odd: 7 / -4 is EVEN -2, 4: genus 1.
        nameOf(0, 0, 7, 3, 5, 1, 0, 1, 0);
        tangle(0, "9+3");
        nameOf(0, 0, 12, 1, 12, 0, 0, 6, 0);
        tangle(0, "9+4");
        nameOf(0, 0, 13, 1, 13, 6, 0, BIG, BIG);
        tangle(0, "t2+t2");
        for (int what = 0; what <= 6; what++) {
            due("not rational", x.name(0, 0, what), STATE);
        }
        due("name(0, 0, 7)", x.name(0, 0, 7), BEYOND);
        due("name(0, 0, -1)", x.name(0, 0, -1), BEYOND);
        due("name(0, 2, 0)", x.name(0, 2, 0), BEYOND);
        due("name(6, 0, 0)", x.name(6, 0, 0), BEYOND);
    }

    private static void alike() {
        promise(18);
        x.leaf(0, 3);
        x.leaf(1, -3);
        tangle(2, "2+t-2");
        tangle(3, "t3");
        tangle(4, "t2+t2");
        due("the same", x.alike(0, 0, 0, 0), 1);
        due("its image", x.alike(0, 0, 1, 0), 2);
        due("its own image", x.alike(2, 0, 2, 0), 3);
        due("others", x.alike(0, 0, 2, 0), 0);
        due("side 1 of t3", x.alike(0, 0, 3, 1), 1);
        due("nought", x.alike(5, 0, 5, 0), 3);
        due("one", x.alike(5, 1, 0, 1), 3);
        due("nought and one", x.alike(5, 0, 5, 1), 0);
        due("not rational", x.alike(4, 0, 0, 0), STATE);
        due("not rational", x.alike(0, 0, 4, 1), STATE);
        due("alike(6, 0, 0, 0)", x.alike(6, 0, 0, 0), BEYOND);
        due("alike(0, 2, 0, 0)", x.alike(0, 2, 0, 0), BEYOND);
        due("alike(0, 0, -1, 0)", x.alike(0, 0, -1, 0), BEYOND);
        due("alike(4, 0, 0, -1)", x.alike(4, 0, 0, -1), BEYOND);
    }

    private static void listed() {
        promise(19);
        int[][] four = {{4, 1}, {4, 3}, {5, 2}};
        due("listed(4, -7, -1)", x.listed(4, -7, -1), 3);
        for (int i = 0; i < 3; i++) {
            due("P", x.listed(4, i, 0), four[i][0]);
            due("Q", x.listed(4, i, 1), four[i][1]);
        }
        due("listed(4, 3, 0)", x.listed(4, 3, 0), NONE);
        due("listed(4, MAX, 1)", x.listed(4, Integer.MAX_VALUE, 1), NONE);
        int all = 0;
        for (int size = 2; size <= 12; size++) {
            int want = ((1 << (size - 2)) + (1 << ((size - 1) / 2))) / 2;
            due("how many of " + size, x.listed(size, 0, -1), want);
            all += want;
        }
        due("all", all, 1086);
        due("the last one's P", x.listed(12, 527, 0), 233);
        due("listed(2, 0, 1)", x.listed(2, 0, 1), 1);
        due("listed(1, 0, -1)", x.listed(1, 0, -1), BEYOND);
        due("listed(13, 0, -1)", x.listed(13, 0, -1), BEYOND);
        due("listed(4, -1, 0)", x.listed(4, -1, 0), BEYOND);
        due("listed(4, -1, 1)", x.listed(4, -1, 1), BEYOND);
        due("listed(4, 0, 2)", x.listed(4, 0, 2), BEYOND);
        due("listed(4, 0, -2)", x.listed(4, 0, -2), BEYOND);
    }

    /** Enters 0 and 1, k and its image for k 3 to 9, and sums of two leaves, till 40 names stand there. */
    private static void fillBook() {
        x.leaf(0, 0);
        due("enter", x.enter(0, 0), 1);
        due("enter", x.enter(0, 1), 1);
        for (int k = 3; k <= 21; k++) {
            tangle(0, k > 18 ? "9+9+" + (k - 18) : k > 9 ? "9+" + (k - 9) : "" + k);
            due("enter " + k, x.enter(0, 0), 1);
            x.move(0, 3);
            due("enter -" + k, x.enter(0, 0), 1);
        }
    }

    private static void bookOfNames() {
        promise(20);
        fillBook();
        due("40 names", x.count(3), 40);
        x.leaf(0, 2);
        due("no room", x.enter(0, 0), FULL);
        x.leaf(0, 3);
        due("an old one", x.enter(0, 0), 2);
        due("an old one", x.enter(0, 0), 3);
        due("41 and 1 times", x.count(4), 42);
        due("40 names", x.count(3), 40);
        tangle(1, "t2+t2");
        due("not rational", x.enter(1, 0), STATE);
        due("enter(6, 0)", x.enter(6, 0), BEYOND);
        due("enter(0, 2)", x.enter(0, 2), BEYOND);
        promise = 21;
        int[][] first = {{0, 1, 1}, {1, 0, 1}, {3, 1, 3}, {3, 2, 1}, {4, 1, 1}};
        for (int i = 0; i < first.length; i++) {
            for (int what = 0; what < 3; what++) {
                due("book(" + i + ", " + what + ")", x.book(i, what), first[i][what]);
            }
        }
        due("book(39, 1)", x.book(39, 1), 20);
        due("book(40, 0)", x.book(40, 0), NONE);
        due("book(-1, 0)", x.book(-1, 0), NONE);
        due("book(0, 3)", x.book(0, 3), BEYOND);
        due("book(99, -1)", x.book(99, -1), BEYOND);
    }

    private static void rankedNames() {
        promise(22);
        int[] entered = {5, 3, -3, 5, -3, 0, 4, 0, 5};
        for (int k : entered) {
            x.leaf(0, k);
            x.enter(0, 0);
        }
        int[][] want = {{5, 1, 3}, {0, 1, 2}, {3, 2, 2}, {3, 1, 1}, {4, 1, 1}};
        for (int i = 0; i < want.length; i++) {
            for (int what = 0; what < 3; what++) {
                due("ranked(" + i + ", " + what + ")", x.ranked(i, what), want[i][what]);
            }
        }
        due("ranked(5, 0)", x.ranked(5, 0), NONE);
        due("ranked(-1, 0)", x.ranked(-1, 0), NONE);
        due("ranked(0, 3)", x.ranked(0, 3), BEYOND);
        due("ranked(9, -1)", x.ranked(9, -1), BEYOND);
        promise = 23;
        due("entered(5, 1)", x.entered(5, 1), 3);
        due("entered(3, 2)", x.entered(3, 2), 2);
        due("entered(0, 1)", x.entered(0, 1), 2);
        due("entered(0, 0)", x.entered(0, 0), 0);
        due("entered(1, 0)", x.entered(1, 0), 0);
        due("entered(-3, 2)", x.entered(-3, 2), 0);
        due("entered(MIN, MAX)", x.entered(Integer.MIN_VALUE, Integer.MAX_VALUE), 0);
        due("no error", x.told(2), 2);
    }

    private static void sheets() {
        promise(24);
        for (int bits : new int[] {8, 16, 32, 64}) {
            due("sheet(3, " + bits + ", 48)", x.sheet(3, bits, 48), 1);
            due("of(3, 47)", x.of(3, 47), 0);
            x.put(3, 47, 5);
        }
        due("sheet(3, 8, 2)", x.sheet(3, 8, 2), 1);
        numbers(3, 0, 0);
        due("sheet(3, 8, 0)", x.sheet(3, 8, 0), 1);
        numbers(3);
        due("sheet(4, 8, -1)", x.sheet(4, 8, -1), BEYOND);
        due("sheet(-1, 8, 1)", x.sheet(-1, 8, 1), BEYOND);
        due("sheet(0, 7, -1)", x.sheet(0, 7, -1), BEYOND);
        due("sheet(0, 8, -1)", x.sheet(0, 8, -1), STATE);
        due("sheet(0, 8, 49)", x.sheet(0, 8, 49), BEYOND);
        due("sheet(0, 0, -1)", x.sheet(0, 0, -1), 1);
        due("sheet(3, 0, 99)", x.sheet(3, 0, 99), 1);
        due("it is missing", x.of(3, 0), LONG_LOW - 2);
        promise = 25;
        x.sheet(0, 8, 2);
        x.sheet(1, 16, 2);
        x.sheet(2, 32, 2);
        x.sheet(3, 64, 2);
        long v = 0x123456789ABCDEF0L;
        for (int sheet = 0; sheet < 4; sheet++) {
            due("put", x.put(sheet, 1, v), 1);
        }
        numbers(0, 0, (byte) v);
        numbers(1, 0, (short) v);
        numbers(2, 0, (int) v);
        numbers(3, 0, v);
        x.put(3, 0, LONG_LOW - 1);
        promise = 26;
        due("as an error is", x.of(3, 0), LONG_LOW - 1);
        int before = x.told(1);
        due("as an error is", x.of(3, 0), LONG_LOW - 1);
        due("but it is none", x.told(1), before);
        due("of(3, 2)", x.of(3, 2), LONG_LOW - 1);
        due("it is one", x.told(1), before + 1);
        due("of(4, 0)", x.of(4, 0), LONG_LOW - 1);
        due("of(-1, 0)", x.of(-1, 0), LONG_LOW - 1);
        due("of(0, -1)", x.of(0, -1), LONG_LOW - 1);
        promise = 25;
        due("put(0, 2, 1)", x.put(0, 2, 1), BEYOND);
        due("put(0, -1, 1)", x.put(0, -1, 1), BEYOND);
        due("put(4, 0, 1)", x.put(4, 0, 1), BEYOND);
        x.sheet(0, 0, 0);
        due("put(0, 99, 1)", x.put(0, 99, 1), NONE);
        due("of(0, 99)", x.of(0, 99), LONG_LOW - 2);
    }

    private static void shifts() {
        promise(27);
        x.sheet(0, 16, 5);
        x.sheet(1, 16, 3);
        x.sheet(2, 32, 3);
        for (int i = 0; i < 5; i++) {
            x.put(0, i, i + 1);
        }
        due("to itself, on", x.shift(0, 0, 0, 1, 4), 4);
        numbers(0, 1, 1, 2, 3, 4);
        due("to itself, back", x.shift(0, 1, 0, 0, 4), 4);
        numbers(0, 1, 2, 3, 4, 4);
        due("to another", x.shift(0, 2, 1, 0, 3), 3);
        numbers(1, 3, 4, 4);
        due("none at all", x.shift(0, 5, 1, 3, 0), 0);
        due("too many there", x.shift(0, 0, 1, 0, 4), BEYOND);
        due("too many here", x.shift(1, 1, 0, 0, 3), BEYOND);
        due("n below 0", x.shift(0, 0, 1, 0, -1), BEYOND);
        due("i below 0", x.shift(0, -1, 1, 0, 1), BEYOND);
        due("j below 0", x.shift(0, 0, 1, -1, 1), BEYOND);
        due("far", x.shift(0, Integer.MAX_VALUE, 1, 0, 1), BEYOND);
        due("many", x.shift(0, 1, 1, 1, Integer.MAX_VALUE), BEYOND);
        due("unlike bits", x.shift(0, 0, 2, 0, 99), KIND);
        due("one is missing", x.shift(0, 0, 3, 0, 99), NONE);
        due("one is missing", x.shift(3, 0, 2, 0, 1), NONE);
        due("no such sheet", x.shift(4, 0, 3, 0, 1), BEYOND);
        due("no such sheet", x.shift(3, 0, -1, 0, 1), BEYOND);
        numbers(1, 3, 4, 4);
    }

    private static void rowOf(int p, int q, int how, long... want) {
        due("terms(0, " + p + ", " + q + ", " + how + ")", x.terms(0, p, q, how), want.length);
        numbers(0, want);
    }

    private static void rowsOfTerms() {
        promise(28);
        rowOf(0, -5, 0, 0);
        rowOf(0, 5, 1, 0);
        rowOf(0, 5, 2, 0);
        rowOf(0, 5, 3, 0);
        rowOf(-8, 3, 0, -3, 3);
        rowOf(8, -3, 0, -3, 3);
        rowOf(16, 6, 0, 2, 1, 2);
        rowOf(-8, 3, 1, -2, 2, 2);
        rowOf(8, 3, 1, 3, 3);
        rowOf(3, 8, 0, 0, 2, 1, 2);
        rowOf(3, 8, 3, 0, 2, 1, 1, 1);
        rowOf(1, 2, 3, 0, 1, 1);
        rowOf(-3, 1, 3, -3);
        rowOf(10, -4, 3, -2, -1, -1);
        rowOf(1, 2, 2, 0, 2);
        rowOf(3, 2, 2, 2, -2);
        rowOf(-3, 2, 2, -2, 2);
        rowOf(5, 4, 2, 2, -2, 2, -2);
        rowOf(6, 1, 2, 6);
        rowOf(999999999, -999999999, 0, -1);
        rowOf(999999999, 2, 0, 499999999, 2);
        rowOf(-999999999, 999999998, 1, -1, 999999998);
        due("48 terms", x.terms(0, 49, 48, 1), 48);
        due("49 terms", x.terms(0, 50, 49, 1), FULL);
        due("48 terms", x.terms(0, 49, 48, 2), 48);
        due("49 terms", x.terms(0, 50, 49, 2), FULL);
        due("it stays", x.of(0, 47), -2);
        due("both odd", x.terms(0, 9, 3, 2), STATE);
        due("both odd", x.terms(0, -999999999, 999999997, 2), STATE);
        due("as a fraction one is even", x.terms(0, 6, 9, 2), 3);
        due("as a fraction both are odd", x.terms(0, 6, 2, 2), STATE);
        due("terms(0, 1, 0, 0)", x.terms(0, 1, 0, 0), BEYOND);
        due("terms(0, 1, 1, 4)", x.terms(0, 1, 1, 4), BEYOND);
        due("terms(0, 1, 1, -1)", x.terms(0, 1, 1, -1), BEYOND);
        due("terms(4, 1, 1, 0)", x.terms(4, 1, 1, 0), BEYOND);
        due("p is too big", x.terms(0, 1000000000, 1, 0), BEYOND);
        due("p is too small", x.terms(0, -1000000000, 1, 0), BEYOND);
        due("q is too big", x.terms(0, 1, 1000000000, 0), BEYOND);
        due("q is too small", x.terms(0, 1, Integer.MIN_VALUE, 0), BEYOND);
    }

    private static void row(int sheet, long... numbers) {
        x.sheet(sheet, 64, numbers.length);
        for (int i = 0; i < numbers.length; i++) {
            x.put(sheet, i, numbers[i]);
        }
    }

    private static void valueOf(int how, long top, long bottom) {
        due("top " + how, x.value(0, how, 0), top);
        due("bottom " + how, x.value(0, how, 1), bottom);
    }

    private static void values() {
        promise(29);
        row(0, 7);
        valueOf(0, 7, 1);
        valueOf(1, 7, 1);
        row(0, 2, 3, 4);
        // 4, 13 / 4, 30 / 13; 4, 11 / 4, 18 / 11.
        valueOf(0, 30, 13);
        valueOf(1, 18, 11);
        row(0, 5, 0);
        valueOf(0, 1, 0);
        valueOf(1, -1, 0);
        row(0, -2, 2);
        valueOf(0, -3, 2);
        row(0, 1000000000000000000L);
        valueOf(0, 1000000000000000000L, 1);
        row(0, -1000000000000000000L);
        valueOf(0, -1000000000000000000L, 1);
        row(0, 1000000000000000001L);
        valueOf(0, LONG_LOW - 6, LONG_LOW - 6);
        row(0, -1000000000000000001L);
        valueOf(1, LONG_LOW - 6, LONG_LOW - 6);
        // The last pair goes back to small numbers, but one on the way is too big.
        row(0, 0, 1000000000000000001L, 1);
        valueOf(0, LONG_LOW - 6, LONG_LOW - 6);
        row(0, 1000000000000000001L, 1);
        valueOf(1, 1000000000000000000L, 1);
        valueOf(0, LONG_LOW - 6, LONG_LOW - 6);
        row(0, Long.MIN_VALUE, 0);
        valueOf(0, 1, 0);
        row(0, Long.MIN_VALUE, 1);
        valueOf(0, LONG_LOW - 6, LONG_LOW - 6);
        row(0, Long.MIN_VALUE, 2);
        valueOf(0, LONG_LOW - 6, LONG_LOW - 6);
        row(0, 1L << 62, 4);
        valueOf(0, LONG_LOW - 6, LONG_LOW - 6);
        row(0, -1, 1, 0);
        valueOf(0, -1 + 0, 1);
        x.sheet(0, 64, 0);
        valueOf(0, LONG_LOW - 2, LONG_LOW - 2);
        x.sheet(0, 0, 0);
        valueOf(0, LONG_LOW - 2, LONG_LOW - 2);
        due("value(4, 0, 0)", x.value(4, 0, 0), LONG_LOW - 1);
        due("value(0, 2, 0)", x.value(0, 2, 0), LONG_LOW - 1);
        due("value(0, 0, 2)", x.value(0, 0, 2), LONG_LOW - 1);
        due("value(0, -1, 0)", x.value(0, -1, 0), LONG_LOW - 1);
        due("value(0, 0, -1)", x.value(0, 0, -1), LONG_LOW - 1);
    }

    private static void judges() {
        promise(30);
        tangle(0, "2+t-3");
        row(0, 2, 2, 1);
        due("all are", x.judge(0, 0), -1);
        row(0, 2, 3);
        due("another one", x.judge(0, 0), 1);
        row(0, 2, 2);
        due("one lacks", x.judge(0, 0), 2);
        row(0, 2, 2, 1, 1);
        due("one is too many", x.judge(0, 0), 3);
        row(0);
        due("all lack", x.judge(0, 0), 0);
        x.leaf(1, 10);
        due("1 / 0 has none", x.judge(0, 1), -1);
        row(0, 0);
        due("one is too many", x.judge(0, 1), 0);
        due("nought", x.judge(0, 2), -1);
        x.sheet(0, 8, 1);
        x.put(0, 0, 255);
        x.leaf(2, -1);
        due("of 8 bits", x.judge(0, 2), -1);
        tangle(3, "i+i");
        due("no fraction", x.judge(0, 3), NONE);
        due("no sheet", x.judge(1, 0), NONE);
        due("judge(4, 0)", x.judge(4, 0), BEYOND);
        due("judge(0, 6)", x.judge(0, 6), BEYOND);
    }

    private static void draws() {
        promise(31);
        due("seed(5)", x.seed(5), 1);
        due("seed(MIN)", x.seed(Integer.MIN_VALUE), 5);
        due("any number", x.seed(BEYOND), Integer.MIN_VALUE);
        due("any number", x.seed(0), BEYOND);
        due("no error", x.told(1), 0);
        promise = 32;
        int z = 0;
        int[] moves = new int[20];
        for (int i = 0; i < 20; i++) {
            z = z * 1103515245 + 12345;
            moves[i] = (z >>> 8) % 6;
        }
        due("loose(0, 20)", x.loose(0, 20), 20);
        due("z", x.count(5), z);
        for (int i = 0; i < 20; i++) {
            x.move(1, moves[i]);
        }
        for (int what = 0; what <= 6; what++) {
            due("slot(0, " + what + ")", x.slot(0, what), x.slot(1, what));
        }
        due("one", x.loose(2, 1), 1);
        due("loose(0, 0)", x.loose(0, 0), BEYOND);
        due("loose(0, 21)", x.loose(0, 21), BEYOND);
        due("loose(6, 1)", x.loose(6, 1), BEYOND);
        due("z stays", x.count(5), z * 1103515245 + 12345);
        x.leaf(3, 0);
        for (int i = 0; i < 59; i++) {
            x.move(3, 2);
        }
        int before = x.seed(1);
        x.seed(before);
        due("no room", x.loose(3, 2), 0);
        due("z goes on", x.count(5), (before * 1103515245 + 12345) * 1103515245 + 12345);
        tangle(4, "9+9+6");
        due("only turns and mirrors", x.loose(4, 20) + 5, x.slot(4, 2));
    }

    private static void images() {
        promise(33);
        x.leaf(0, 3);
        x.seed(9);
        due("image()", x.image(), 1);
        x.leaf(0, 4);
        x.leaf(1, 5);
        x.seed(8);
        feed("12");
        x.enter(0, 0);
        x.sheet(0, 8, 1);
        promise = 34;
        due("restore()", x.restore(), 3);
        pair(0, 3, 1);
        pair(1, 0, 1);
        due("z", x.count(5), 9);
        due("the tape stays", x.count(2), 2);
        due("the book stays", x.count(3), 1);
        due("the sheet stays", x.of(0, 0), 0);
        x.leaf(2, 6);
        due("restore() again", x.restore(), 3);
        pair(2, 0, 1);
        promise = 33;
        x.leaf(2, 6);
        due("image() again", x.image(), 2);
        x.leaf(0, 0);
        due("restore()", x.restore(), 9);
        pair(0, 3, 1);
        pair(2, 6, 1);
        promise(34);
        due("no image", x.restore(), NONE);
        due("told(2)", x.told(2), 1);
    }

    private static void counts() {
        promise(35);
        x.leaf(0, 3);
        x.leaf(5, -4);
        tangle(1, "t2+t2");
        feed("123");
        x.enter(0, 0);
        x.enter(0, 0);
        x.enter(5, 0);
        x.seed(-7);
        int[] want = {11, 5, 3, 2, 3, -7};
        for (int what = 0; what < 6; what++) {
            due("count(" + what + ")", x.count(what), want[what]);
        }
        due("count(-1)", x.count(-1), BEYOND);
        due("count(6)", x.count(6), BEYOND);
    }

    private static void told() {
        promise(36);
        x.leaf(9, 9);
        x.of(9, 9);
        x.restore();
        x.of(0, 0);
        x.value(0, 0, 0);
        x.sheet(0, 8, -1);
        tangle(0, "9+9+9");
        x.leaf(0, 2);
        x.linked(0, 0, 1, 1);
        row(0, Long.MAX_VALUE);
        x.value(0, 0, 0);
        tangle(0, "9+4");
        x.name(0, 0, 5);
        x.name(0, 0, 6);
        x.tangle(0);
        int[] want = {0, 2, 3, 1, 1, 1, 3};
        for (int k = 1; k <= 6; k++) {
            due("told(" + k + ")", x.told(k), want[k]);
        }
        due("told(0)", x.told(0), BEYOND);
        due("told(7)", x.told(7), BEYOND);
        due("told(MIN)", x.told(Integer.MIN_VALUE), BEYOND);
        due("told(1)", x.told(1), 5);
    }
}
