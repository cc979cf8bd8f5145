import java.util.ArrayList;
import java.util.Arrays;
import java.util.List;

/**
 * Tests sentence by sentence, on a new object for each. Calls are written as texts; a refused call is also
 * looked at from all sides: what any call tells afterwards must be as if it had not been made, but for told().
 */
final class Edge {
    static final long BEYOND = -1000000001L;
    static final long NONE = -1000000002L;
    static final long STATE = -1000000003L;
    static final long FULL = -1000000004L;
    static final long KIND = -1000000005L;
    static final long BIG = -1000000006L;
    static final long LONG_BEYOND = -9000000000000000001L;
    static final long LONG_NONE = -9000000000000000002L;
    static final long LONG_BIG = -9000000000000000006L;
    static final String[] NO_SLOT = {"-1", "6", "MIN", "MAX"};
    static final String[] NO_SHEET = {"-1", "4", "MIN", "MAX"};
    static final String[] NO_SIDE = {"-1", "2", "MIN", "MAX"};

    private static final int MOST_CALLS = 512;
    private static final long PATTERN = 0x7EDCBA9876543210L;

    private final Checks checks;
    private final Sentences sentences;
    private final List<List<Draws.Call>> views = views();
    private final List<Draws.Call> history = new ArrayList<>();
    private StrandTangles object = new StrandTangles();
    private String section = "";
    private String label = "";
    private int askedAhead = 0;

    Edge(Checks checks, Sentences sentences) {
        this.checks = checks;
        this.sentences = sentences;
    }

    // ---- which sentence is tested

    void section(String title) {
        section = title;
    }

    /** The words of the document that the checks behind this call are the test of. */
    void sentence(String words) {
        end();
        label = section + ", '" + words + "': ";
        askedAhead = checks.asked();
        checks.isTrue(label + "stands in the document", sentences.claim(section, words));
        another();
    }

    /** A sentence without a check behind it is not tested. */
    void end() {
        if (!label.isEmpty()) {
            checks.isTrue(label + "is tested", checks.asked() > askedAhead + 1);
        }
    }

    void another() {
        object = new StrandTangles();
        history.clear();
    }

    // ---- calls

    void due(String call, long want) {
        checks.due(label + call + behind(), ask(call), want);
    }

    /** What a call answers, for a check of another one. */
    long asked(String call) {
        return ask(call);
    }

    /** The calls that come of a text with # for 0, 1, 2, .. */
    void dueEach(String call, long... want) {
        for (int i = 0; i < want.length; i++) {
            due(call.replace("#", Integer.toString(i)), want[i]);
        }
    }

    /** The call answers this ERROR and changes nothing else. */
    void refused(String call, long want) {
        List<Draws.Call> before = new ArrayList<>(history);
        due(call, want);
        compare(call, before, kindOf(want));
    }

    void refusedFor(String call, long want, String... values) {
        for (String value : values) {
            refused(call.replace("#", value), want);
        }
    }

    /** The call answers a fault or an ERROR, and nothing is changed but that the tape is empty then. */
    void emptied(String call, long want) {
        List<Draws.Call> before = new ArrayList<>(history);
        for (int i = before.size() - 1; i >= 0 && before.get(i).name.equals("feed"); i--) {
            before.remove(i);
        }
        due(call, want);
        checks.isTrue(label + call + " is asked of a tape", before.size() + 1 < history.size() || want == -10);
        compare(call, before, kindOf(want));
    }

    /** The call answers this and changes nothing at all. */
    void harmless(String call, long want) {
        List<Draws.Call> before = new ArrayList<>(history);
        due(call, want);
        compare(call, before, 0);
    }

    /** These bytes come to the tape. */
    void tape(String text) {
        List<Draws.Call> calls = new ArrayList<>();
        Draws.feed(calls, text);
        for (Draws.Call call : calls) {
            ask(call);
        }
    }

    /** A slot holds what a text tells; it must be one. */
    void hold(int slot, String text) {
        tape(text);
        String call = "tangle(" + slot + ")";
        checks.isTrue(label + text + " is held", ask(call) >= 0);
    }

    void fed(String text, String call, long want) {
        tape(text);
        checks.due(label + "'" + text + "' " + call, ask(call), want);
    }

    void pair(int slot, long top, long bottom) {
        due("slot(" + slot + ", 4)", top);
        due("slot(" + slot + ", 5)", bottom);
    }

    void pairOf(String text, long top, long bottom) {
        hold(0, text);
        pair(0, top, bottom);
    }

    void numbers(int sheet, long... want) {
        dueEach("of(" + sheet + ", #)", want);
        due("of(" + sheet + ", " + want.length + ")", LONG_BEYOND);
    }

    void row(int sheet, long... numbers) {
        due("sheet(" + sheet + ", 64, " + numbers.length + ")", 1);
        for (int i = 0; i < numbers.length; i++) {
            due("put(" + sheet + ", " + i + ", " + numbers[i] + ")", 1);
        }
    }

    void isTrue(String what, boolean holds) {
        checks.isTrue(label + what, holds);
    }

    private long ask(String call) {
        return ask(read(call));
    }

    private long ask(Draws.Call call) {
        history.add(call);
        if (history.size() > MOST_CALLS) {
            checks.isTrue(label + "an object is asked too often", false);
        }
        return Caller.ask(object, call.name, call.args);
    }

    private String behind() {
        int n = history.size();
        return n == 0 ? "" : " behind " + history.subList(Math.max(0, n - 3), n);
    }

    private static Draws.Call read(String call) {
        String name = call.substring(0, call.indexOf('('));
        String inner = call.substring(name.length() + 1, call.length() - 1).trim();
        String[] words = inner.isEmpty() ? new String[0] : inner.split(", *");
        long[] args = new long[words.length];
        for (int i = 0; i < words.length; i++) {
            args[i] = number(words[i]);
        }
        return new Draws.Call(name, args);
    }

    private static long number(String word) {
        switch (word) {
            case "MIN": return Integer.MIN_VALUE;
            case "MAX": return Integer.MAX_VALUE;
            case "LONG_MIN": return Long.MIN_VALUE;
            case "LONG_MAX": return Long.MAX_VALUE;
            default: return Long.parseLong(word);
        }
    }

    // ---- what is left as it was

    private static int kindOf(long answer) {
        for (int kind = 1; kind <= 6; kind++) {
            if (answer == -1000000000L - kind || answer == -9000000000000000000L - kind) {
                return kind;
            }
        }
        return 0;
    }

    private void compare(String call, List<Draws.Call> before, int kind) {
        for (List<Draws.Call> view : views) {
            if (history.size() + view.size() > MOST_CALLS) {
                checks.isTrue(label + call + " has no room for a view", false);
            }
            long[] with = seen(history, view);
            long[] without = seen(before, view);
            if (view == views.get(0)) {
                without[kind]++;
                without[0] = 0;
                with[0] = 0;
            }
            for (int i = 0; i < with.length; i++) {
                if (with[i] != without[i]) {
                    checks.due(label + call + ", and then " + view.subList(0, i + 1), with[i], without[i]);
                    return;
                }
            }
        }
        checks.isTrue(label + call + " leaves all else as it was", true);
    }

    private static long[] seen(List<Draws.Call> calls, List<Draws.Call> view) {
        StrandTangles copy = new StrandTangles();
        for (Draws.Call call : calls) {
            Caller.ask(copy, call.name, call.args);
        }
        long[] answers = new long[view.size()];
        for (int i = 0; i < answers.length; i++) {
            answers[i] = Caller.ask(copy, view.get(i).name, view.get(i).args);
        }
        return answers;
    }

    /** Rows of calls that together tell all that an object holds; each row is asked of an object of its own. */
    private static List<List<Draws.Call>> views() {
        List<List<Draws.Call>> all = new ArrayList<>();
        all.add(view("count(0)", "told(1)", "told(2)", "told(3)", "told(4)", "told(5)", "told(6)"));
        all.add(view("count(0)", "count(1)", "count(2)", "count(3)", "count(4)", "count(5)", "image()", "seed(3)"));
        all.add(slotsView());
        List<Draws.Call> image = view("restore()", "count(5)");
        image.addAll(slotsView());
        all.add(image);
        for (int side = 0; side < 2; side++) {
            List<Draws.Call> links = new ArrayList<>();
            for (int slot = 0; slot < 6; slot++) {
                links.add(new Draws.Call("gauss", 0, slot, side, 0));
                for (int i = 0; i < 12; i++) {
                    links.add(new Draws.Call("of", 0, i));
                }
            }
            all.add(links);
        }
        for (int sheet = 0; sheet < 4; sheet++) {
            all.add(sheetView(sheet));
        }
        for (int what = 0; what < 3; what++) {
            List<Draws.Call> book = new ArrayList<>();
            for (int i = 0; i <= 40; i++) {
                book.add(new Draws.Call("book", i, what));
            }
            all.add(book);
        }
        for (String reader : new String[] {"tangle(0)", "moves(0)"}) {
            List<Draws.Call> tape = view(reader);
            tape.addAll(slotsView());
            all.add(tape);
        }
        return all;
    }

    private static List<Draws.Call> view(String... calls) {
        List<Draws.Call> view = new ArrayList<>();
        for (String call : calls) {
            view.add(read(call));
        }
        return view;
    }

    private static List<Draws.Call> slotsView() {
        List<Draws.Call> view = new ArrayList<>();
        for (int slot = 0; slot < 6; slot++) {
            for (int what = 0; what <= 8; what++) {
                view.add(new Draws.Call("slot", slot, what));
            }
        }
        return view;
    }

    /** All numbers of a sheet, then how many bits it has, be it empty or not. */
    private static List<Draws.Call> sheetView(int sheet) {
        List<Draws.Call> view = new ArrayList<>();
        for (int i = 0; i <= 48; i++) {
            view.add(new Draws.Call("of", sheet, i));
        }
        view.add(new Draws.Call("put", sheet, 0, PATTERN));
        view.add(new Draws.Call("of", sheet, 0));
        int other = (sheet + 1) % 4;
        for (int bits : new int[] {8, 16, 32, 64}) {
            view.add(new Draws.Call("sheet", other, bits, 0));
            view.add(new Draws.Call("shift", sheet, 0, other, 0, 0));
        }
        return view;
    }

    static String many(String text, int times) {
        return text.repeat(times);
    }

    static long[] filled(int length, long number) {
        long[] row = new long[length];
        Arrays.fill(row, number);
        return row;
    }
}
