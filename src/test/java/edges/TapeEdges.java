/** The tape and what is read from it: Terms 5, promises 6 to 8. */
final class TapeEdges {
    private static final long BEYOND = Edge.BEYOND;
    private static final long FULL = Edge.FULL;
    private static final String DIGITS = "0123456789";

    private TapeEdges() {
    }

    static void run(Edge e) {
        e.section("Terms");
        tape(e);
        grammar(e);
        open(e);
        faults(e);
        rowsOfMoves(e);
        feedPromise(e);
        tanglePromise(e);
        movesPromise(e);
    }

    private static void tape(Edge e) {
        e.sentence("5. THE TAPE takes bytes, 100 at most.");
        for (int i = 1; i <= 12; i++) {
            e.due("feed(-1, 8)", 8 * i);
        }
        e.refused("feed(-1, 5)", FULL);
        e.due("feed(0, 4)", 100);
        e.refused("feed(0, 1)", FULL);
        e.due("count(2)", 100);
        // Bytes may be any from 0 to 255; none of them but 32 is a blank.
        for (int code = 0; code < 256; code++) {
            e.another();
            e.due("feed(" + code + ", 1)", 1);
            e.due("moves(0)", code == 32 ? 0 : -10);
        }
    }

    /** Behind a text each byte of done ends a TEXT, each of on leads on to one, and any other is the FAULT. */
    private static void next(Edge e, String text, String done, String on) {
        for (int code = 0; code < 256; code++) {
            e.another();
            e.due("leaf(0, 7)", 7);
            e.tape(text + (char) code);
            if (done.indexOf(code) >= 0) {
                e.hold(0, "");
            } else {
                int fault = text.length() + (on.indexOf(code) >= 0 ? 1 : 0);
                e.due("tangle(0)", -10 - fault);
                e.due("slot(0, 4)", 7);
            }
            e.due("count(2)", 0);
        }
    }

    private static void grammar(Edge e) {
        e.sentence("THE TEXT of a TANGLE: E: S { + S }. S: U { * U }. U: a digit, or - and a digit; i; ( E ); t U; m U.");
        next(e, "", DIGITS + "i", "-(tm");
        next(e, "-", DIGITS, "");
        next(e, "t-", DIGITS, "");
        next(e, "1", "", "+*");
        next(e, "-1", "", "+*");
        next(e, "i", "", "+*");
        next(e, "t1", "", "+*");
        next(e, "m", DIGITS + "i", "-(tm");
        next(e, "t", DIGITS + "i", "-(tm");
        next(e, "1+", DIGITS + "i", "-(tm");
        next(e, "1*", DIGITS + "i", "-(tm");
        next(e, "(", "", DIGITS + "i-(tm");
        next(e, "(1", ")", "+*");
        next(e, "t(1", ")", "+*");
        next(e, "((1", "", ")+*");
        next(e, "((1)", ")", "+*");
        next(e, "(1)", "", "+*");
        e.another();
        for (int digit = 0; digit <= 9; digit++) {
            e.pairOf("" + digit, digit, 1);
            e.pairOf("-" + digit, -digit, 1);
        }
        e.pairOf("i", 1, 0);
        e.pairOf("1+2*3", 11, 5);
        e.pairOf("2*3+1", 11, 5);
        e.pairOf("(1+2)*3", 9, 6);
        e.pairOf("t1*2", -2, 1);
        e.pairOf("t1+2", 1, 1);
        e.pairOf("mt2+3", 7, 2);
        e.pairOf("m(t2+3)", -5, 2);

        e.sentence("No blanks; + and * from the left.");
        String[] blanks = {" 1", "1 ", "1 +1", "1+ 1", "( 1)", "- 1", "t 1"};
        long[] places = {0, 1, 1, 2, 1, 1, 1};
        for (int i = 0; i < blanks.length; i++) {
            e.tape(blanks[i]);
            e.emptied("tangle(0)", -10 - places[i]);
        }
        e.another();
        e.hold(0, "1+1+tt1");
        e.due("slot(0, 3)", 4);
        e.hold(0, "tt1+1+1");
        e.due("slot(0, 3)", 5);
        e.hold(0, "1*1*tt1");
        e.due("slot(0, 3)", 4);
        e.hold(0, "tt1*1*1");
        e.due("slot(0, 3)", 5);
        e.hold(0, "1+1*1+1");
        e.due("slot(0, 3)", 4);
    }

    private static void open(Edge e) {
        e.sentence("At most 6 of ( t m are open at once (t, m till their U ends).");
        for (String six : new String[] {"tttttt", "mmmmmm", "tmtmtm"}) {
            next(e, six, DIGITS + "i", "-");
            next(e, six.substring(1), DIGITS + "i", "-(tm");
        }
        next(e, "((((((", "", DIGITS + "i-");
        next(e, "(((((", "", DIGITS + "i-(tm");
        next(e, "t(m(t(", "", DIGITS + "i-");
        next(e, "(t(m(t", "", DIGITS + "i-");
        next(e, "tttttt1+", DIGITS + "i", "-(tm");
        next(e, "((((((1)", "", ")+*");
        next(e, "((((((1)+", "", DIGITS + "i-(tm");
        next(e, "((((((1+", "", DIGITS + "i-");
        next(e, "((((((1))))))*ttttt", DIGITS + "i", "-(tm");
        next(e, "((((((1))))))*tttttt", DIGITS + "i", "-");
        next(e, "t(t(t(1)*", "", DIGITS + "i-(tm");
        next(e, "t(t(t(1)*tt", "", DIGITS + "i-");
        next(e, "t(t(t(1*", "", DIGITS + "i-");
        e.another();
        e.fed("((((((1))))))", "tangle(0)", 1);
        e.fed("tmtmtm1", "tangle(0)", 1);
        e.fed("t(t(t(1)))", "tangle(0)", 1);
        e.due("slot(0, 2)", 4);
        e.tape("(((((((1)))))))");
        e.emptied("tangle(0)", -16);
        e.tape("ttttttt1");
        e.emptied("tangle(0)", -16);
        e.tape("t(t(t(m1)))");
        e.emptied("tangle(0)", -16);
    }

    private static void faults(Edge e) {
        e.sentence("FAULT: the place (from 0) of the first byte with which no TEXT goes on;");
        String[] texts = {"+", "1)", "(1))", "12", "1i", "--1", "-i", "-(1)", "()", "1++1", "1**1", "1+*1", "x1x", "1t2", "(1)(2)",
            "1+2)+", "\u00001", "1\u00ff"};
        long[] places = {0, 1, 3, 1, 1, 1, 1, 1, 1, 2, 2, 2, 0, 1, 3, 3, 0, 1};
        for (int i = 0; i < texts.length; i++) {
            e.another();
            e.hold(0, "t3");
            e.tape(texts[i]);
            e.emptied("tangle(0)", -10 - places[i]);
        }
        String full = "((((((0))))))" + Edge.many("+((((((0))))))", 6);
        e.another();
        e.tape(full + "+0-");
        e.emptied("tangle(0)", -10 - 99);

        // What a wrong text left open is forgotten.
        for (String wrong : new String[] {"t(t(t(x", "((((((", "1+(2*x", "tttttt-"}) {
            e.another();
            e.tape(wrong);
            e.emptied("tangle(0)", -10 - wrong.length() + (wrong.endsWith("x") ? 1 : 0));
            e.fed("t(t(t(2)))", "tangle(0)", 2);
            e.due("slot(0, 2)", 4);
            e.fed("3", "tangle(0)", 3);
            e.pair(0, 3, 1);
        }

        e.sentence("how many there are, if it ends too early.");
        String[] early = {"", "-", "(", "t", "m", "1+", "1*", "(1", "((1)", "t-", "1+(", "mt"};
        for (String text : early) {
            e.another();
            e.hold(0, "t3");
            e.tape(text);
            e.emptied("tangle(0)", -10 - text.length());
        }
        e.another();
        e.tape(full + "+0+");
        e.emptied("tangle(0)", -110);
    }

    private static void rowsOfMoves(Edge e) {
        e.sentence("A ROW of MOVES: WORDS parted by blanks (32);");
        e.fed("turn turn", "moves(0)", 2);
        e.fed("  turn   turn  ", "moves(0)", 2);
        e.fed(Edge.many(" ", 100), "moves(0)", 0);
        e.fed("", "moves(0)", 0);
        e.fed("turnturn", "moves(0)", -10);
        e.sentence("bytes that aren't blank, as long as they go, are a WORD: twist untwist turn mirror drop lift.");
        String[] words = {"twist", "untwist", "turn", "mirror", "drop", "lift"};
        long[][] want = {{2, 3}, {-4, 3}, {-3, -1}, {1, 3}, {-1, 2}, {1, -4}};
        for (int i = 0; i < words.length; i++) {
            e.another();
            e.hold(0, "t3");
            e.fed(words[i], "moves(0)", 1);
            e.pair(0, want[i][0], want[i][1]);
            String first = words[i].substring(0, 1);
            for (String wrong : new String[] {words[i].substring(1), "x" + words[i].substring(1), words[i].replaceFirst(".$", "x"),
                first, words[i].substring(0, words[i].length() - 1), words[i] + "s",
                words[i].toUpperCase(), "\t" + words[i], words[i] + "\n", words[i] + "\u00a0", words[i] + "," + words[i]}) {
                e.tape(wrong);
                e.emptied("moves(0)", -10);
            }
        }
    }

    private static void feedPromise(Edge e) {
        e.section("Promise 6");
        e.sentence("The n lowest bytes (1 to 8) of a word, the lowest first, come to THE TAPE: how many there are.");
        // The bytes of 3616797128962059057 are 1 + 2 + 3 + 1 2, the lowest first.
        long word = 0x32312B332B322B31L;
        long[] answers = {1, -12, 3, -14, 6, -16, 7, -17};
        for (int n = 1; n <= 8; n++) {
            e.another();
            e.due("feed(" + word + ", " + n + ")", n);
            e.due("tangle(0)", answers[n - 1]);
        }
        e.another();
        e.due("feed(-203, 1)", 1);
        e.due("feed(" + 0xFFFFFFFFFFFF742BL + ", 2)", 3);
        e.due("feed(50, 1)", 4);
        e.due("tangle(0)", 7);
        e.pair(0, 9, 2);
        e.due("feed(LONG_MIN, 8)", 8);
        e.due("tangle(0)", -10);

        e.sentence("BEYOND.");
        e.tape("2+");
        e.refusedFor("feed(51, #)", BEYOND, "0", "9", "-1", "MIN", "MAX");
        e.fed("3", "tangle(0)", 5);

        e.sentence("FULL.");
        e.tape("0" + Edge.many("+0", 47));
        e.due("count(2)", 95);
        e.refused("feed(0, 6)", FULL);
        e.refused("feed(0, 8)", FULL);
        e.tape("*0*");
        e.refused("feed(48, 3)", FULL);
        e.due("feed(10798, 2)", 100);
        e.refused("feed(0, 1)", FULL);
        e.refused("feed(0, 9)", BEYOND);
        e.due("tangle(0)", -10 - 98);
        e.due("feed(49, 1)", 1);
    }

    private static void tanglePromise(Edge e) {
        e.section("Promise 7");
        e.sentence("THE TAPE, which is empty then, is THE TEXT of a TANGLE that a SLOT holds then: how many CROSSINGS it has.");
        e.hold(5, "2*2");
        e.fed("3+t-4", "tangle(5)", 7);
        e.due("count(2)", 0);
        e.pair(5, -13, -4);
        e.due("slot(5, 2)", 4);
        e.fed("i", "tangle(5)", 0);
        e.fed("-0", "tangle(5)", 0);
        e.fed("9+9*-6", "tangle(4)", 24);
        e.fed("i" + Edge.many("*i", 23), "tangle(3)", 0);
        e.due("slot(3, 0)", 24);
        e.fed("mmmmm0" + Edge.many("*m0", 18), "tangle(2)", 0);
        e.due("slot(2, 2)", 60);
        e.fed("((((((0))))))" + Edge.many("+((((((0))))))", 6) + "+-0", "tangle(1)", 0);
        e.due("slot(1, 0)", 8);

        e.sentence("BEYOND (THE TAPE stays).");
        e.tape("5");
        e.refusedFor("tangle(#)", BEYOND, Edge.NO_SLOT);
        e.due("count(2)", 1);
        e.due("tangle(0)", 5);
        e.tape("+");
        e.refused("tangle(6)", BEYOND);
        e.due("count(2)", 1);

        e.sentence("-10 less the FAULT (no ERROR; the SLOT stays).");
        e.hold(0, "t3");
        e.emptied("tangle(0)", -10);
        e.tape(")");
        e.emptied("tangle(0)", -10);
        e.tape("3+");
        e.emptied("tangle(0)", -12);
        e.tape("9+9+9+");
        e.emptied("tangle(0)", -16);
        e.tape("0" + Edge.many("+0", 49) + "*");
        e.emptied("tangle(0)", -110);
        e.pair(0, -1, 3);
        for (int k = 1; k <= 6; k++) {
            e.due("told(" + k + ")", 0);
        }

        e.sentence("FULL (THE TAPE is empty, too).");
        e.hold(0, "t3");
        e.tape("9+9+7");
        e.emptied("tangle(0)", FULL);
        e.tape("0" + Edge.many("+0", 24));
        e.emptied("tangle(0)", FULL);
        e.tape("tttttt0" + Edge.many("+t0", 18));
        e.emptied("tangle(0)", FULL);
        e.tape("9" + Edge.many("*9", 49));
        e.emptied("tangle(0)", FULL);
        e.due("count(2)", 0);
        e.pair(0, -1, 3);
    }

    private static void movesPromise(Edge e) {
        e.section("Promise 8");
        e.sentence("THE TAPE, which is empty then, is a ROW of MOVES of what a SLOT holds, one after the other: how many.");
        e.due("leaf(5, 3)", 3);
        e.fed("twist untwist turn mirror drop lift", "moves(5)", 6);
        e.due("count(2)", 0);
        // 4, 3, (-1, 3), (1, 3), (1, 4), (-1, -3).
        e.pair(5, -1, -3);
        e.dueEach("slot(5, #)", 5, 7, 11, 7);
        e.harmless("moves(5)", 0);
        e.fed(" ", "moves(5)", 0);
        e.fed(Edge.many("lift ", 20), "moves(4)", 20);
        e.due("slot(4, 1)", 20);
        e.fed(Edge.many("untwist ", 12) + "drop", "moves(3)", 13);
        // -12 / 1, then * 1: (-12, -12 + 1).
        e.pair(3, -12, -11);
        e.fed(Edge.many("turn ", 19) + " turn", "moves(2)", 20);
        e.pair(2, 0, 1);

        e.sentence("BEYOND (THE TAPE stays).");
        e.tape("turn");
        e.refusedFor("moves(#)", BEYOND, Edge.NO_SLOT);
        e.due("count(2)", 4);
        e.due("moves(0)", 1);
        e.tape("x");
        e.refused("moves(6)", BEYOND);
        e.due("count(2)", 1);

        e.sentence("-10 less the place (from 0) of the first byte of the first WORD that is none of these (no ERROR; the SLOT stays).");
        String[] rows = {"x", " x", "turn x", "turn drop lft tunr", "turn  turns", "turn turn\t", "\u0000", "turn tur"};
        long[] places = {0, 1, 5, 10, 6, 5, 0, 5};
        for (int i = 0; i < rows.length; i++) {
            e.another();
            e.hold(0, "t3");
            e.tape(rows[i]);
            e.emptied("moves(0)", -10 - places[i]);
            e.pair(0, -1, 3);
            e.due("told(1)", 0);
        }
        e.another();
        e.tape(Edge.many(" ", 99) + "x");
        e.emptied("moves(0)", -109);
        e.tape(Edge.many("turn ", 19) + "turns");
        e.emptied("moves(0)", -105);
        e.hold(0, "9+9+6");
        e.tape("twist no");
        e.emptied("moves(0)", -16);

        e.sentence("FULL: for one of them (THE TAPE is empty, too; the SLOT stays).");
        e.hold(0, "9+9+6");
        for (String word : new String[] {"twist", "untwist", "drop", "lift"}) {
            e.tape(word);
            e.emptied("moves(0)", FULL);
            e.tape("turn mirror " + word + " turn");
            e.emptied("moves(0)", FULL);
        }
        e.due("slot(0, 2)", 5);
        e.fed("turn mirror", "moves(0)", 2);
        e.another();
        e.hold(0, "9+9+5");
        e.tape("lift drop");
        e.emptied("moves(0)", FULL);
        e.fed("lift", "moves(0)", 1);
        e.another();
        e.hold(0, "0" + Edge.many("+0", 22));
        e.tape("lift drop");
        e.emptied("moves(0)", FULL);
        e.fed("lift turn", "moves(0)", 2);
        e.another();
        e.hold(0, "ttt0" + Edge.many("+t0", 18));
        e.tape("turn turn turn");
        e.emptied("moves(0)", FULL);
        e.tape("turn twist");
        e.emptied("moves(0)", FULL);
        e.fed("turn mirror", "moves(0)", 2);
        e.due("slot(0, 2)", 60);
    }
}
