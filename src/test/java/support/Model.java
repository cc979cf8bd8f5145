import java.math.BigInteger;
import java.util.ArrayDeque;
import java.util.ArrayList;
import java.util.Arrays;
import java.util.Collections;
import java.util.Comparator;
import java.util.HashMap;
import java.util.List;
import java.util.Map;
import java.util.TreeMap;

/**
 * A slow second program of the document, written from its words with other means than the class:
 * trees with recursion, graphs of ends, BigInteger, every row tried out.
 */
final class Model {
    static final int BEYOND = 1, NONE = 2, STATE = 3, FULL = 4, KIND = 5, BIG = 6;

    static final class Err extends RuntimeException {
        final int kind;

        Err(int kind) {
            super(null, null, false, false);
            this.kind = kind;
        }
    }

    static final class Fault extends RuntimeException {
        final int place;

        Fault(int place) {
            super(null, null, false, false);
            this.place = place;
        }
    }

    // ---- trees

    static final class Node {
        final char kind;
        final int k;
        final Node a;
        final Node b;

        Node(char kind, int k, Node a, Node b) {
            this.kind = kind;
            this.k = k;
            this.a = a;
            this.b = b;
        }

        static Node leaf(int k) {
            return k == 10 ? new Node('i', 0, null, null) : new Node('k', k, null, null);
        }

        int leaves() {
            return a == null ? 1 : a.leaves() + (b == null ? 0 : b.leaves());
        }

        int crossings() {
            return a == null ? Math.abs(k) : a.crossings() + (b == null ? 0 : b.crossings());
        }

        int parts() {
            return 1 + (a == null ? 0 : a.parts()) + (b == null ? 0 : b.parts());
        }

        int depth() {
            return 1 + Math.max(a == null ? 0 : a.depth(), b == null ? 0 : b.depth());
        }

        BigInteger[] pair() {
            if (kind == 'k') {
                return new BigInteger[] {BigInteger.valueOf(k), BigInteger.ONE};
            }
            if (kind == 'i') {
                return new BigInteger[] {BigInteger.ONE, BigInteger.ZERO};
            }
            BigInteger[] x = a.pair();
            if (kind == 't') {
                return new BigInteger[] {x[1].negate(), x[0]};
            }
            if (kind == 'm') {
                return new BigInteger[] {x[0].negate(), x[1]};
            }
            BigInteger[] y = b.pair();
            BigInteger mixed = x[0].multiply(y[1]).add(y[0].multiply(x[1]));
            return kind == '+' ? new BigInteger[] {mixed, x[1].multiply(y[1])}
                    : new BigInteger[] {x[0].multiply(y[0]), mixed};
        }

        boolean rational() {
            if (a == null) {
                return true;
            }
            if (b == null) {
                return a.rational();
            }
            int at = kind == '+' ? 1 : 0;
            boolean unit = a.pair()[at].abs().equals(BigInteger.ONE) || b.pair()[at].abs().equals(BigInteger.ONE);
            return a.rational() && b.rational() && unit;
        }

        boolean fits() {
            return leaves() <= 24 && crossings() <= 24 && parts() <= 60;
        }

        Node moved(int move) {
            switch (move) {
                case 0: return new Node('+', 0, this, leaf(1));
                case 1: return new Node('+', 0, this, leaf(-1));
                case 2: return new Node('t', 0, this, null);
                case 3: return new Node('m', 0, this, null);
                case 4: return new Node('*', 0, this, leaf(1));
                default: return new Node('*', 0, this, leaf(-1));
            }
        }
    }

    /** A fraction with its bottom above 0, or 1 / 0; null for none. */
    static BigInteger[] fraction(BigInteger p, BigInteger q) {
        BigInteger g = p.gcd(q);
        if (g.signum() == 0) {
            return null;
        }
        if (q.signum() == 0) {
            return new BigInteger[] {BigInteger.ONE, BigInteger.ZERO};
        }
        if (q.signum() < 0) {
            g = g.negate();
        }
        return new BigInteger[] {p.divide(g), q.divide(g)};
    }

    static BigInteger[] fraction(long p, long q) {
        return fraction(BigInteger.valueOf(p), BigInteger.valueOf(q));
    }

    static BigInteger floor(BigInteger p, BigInteger q) {
        BigInteger[] both = p.divideAndRemainder(q);
        return both[1].signum() != 0 && both[1].signum() != q.signum() ? both[0].subtract(BigInteger.ONE) : both[0];
    }

    /** Rows as the document tells them; null if there would be more than most. */
    static List<BigInteger> row(BigInteger[] f, int how, int most) {
        List<BigInteger> row = new ArrayList<>();
        BigInteger p = f[0];
        BigInteger q = f[1];
        if (how == 3) {
            if (q.signum() == 0) {
                return row;
            }
            if (p.signum() < 0) {
                List<BigInteger> other = row(new BigInteger[] {p.negate(), q}, 3, most);
                for (BigInteger t : other) {
                    row.add(t.negate());
                }
                return row;
            }
            row = row(f, 0, most);
            if (row.size() % 2 == 0) {
                BigInteger last = row.remove(row.size() - 1);
                row.add(last.subtract(BigInteger.ONE));
                row.add(BigInteger.ONE);
            }
            return row;
        }
        while (true) {
            if (row.size() == most) {
                return null;
            }
            BigInteger term;
            BigInteger rest;
            if (how == 0) {
                term = floor(p, q);
                rest = p.subtract(term.multiply(q));
            } else if (how == 1) {
                term = floor(p.negate(), q).negate();
                rest = term.multiply(q).subtract(p);
            } else {
                term = floor(p, q);
                if (term.testBit(0)) {
                    term = term.add(BigInteger.ONE);
                }
                rest = p.subtract(term.multiply(q));
                if (rest.abs().compareTo(q) >= 0) {
                    throw new IllegalStateException("no even number is near enough");
                }
            }
            row.add(term);
            if (rest.signum() == 0) {
                return row;
            }
            p = rest.signum() < 0 ? q.negate() : q;
            q = rest.abs();
        }
    }

    // ---- links

    /** The curves of one side: corners are "c:NW" and so on, other ends have numbers of their own. */
    static final class Curves {
        static final String[] CORNERS = {"NW", "NE", "SW", "SE"};
        final Map<String, List<String>> edges = new HashMap<>();
        final List<Boolean> above = new ArrayList<>();
        final List<List<int[]>> components = new ArrayList<>();
        final Map<String, String> root = new HashMap<>();
        int circles = 0;
        int fresh = 0;

        Curves(Node tree, int side) {
            String[] ends = build(tree, 1);
            if (side == 0) {
                tie(ends[0], ends[1]);
                tie(ends[2], ends[3]);
            } else {
                tie(ends[0], ends[2]);
                tie(ends[1], ends[3]);
            }
            trace();
            components.sort(Comparator.comparingInt((List<int[]> c) -> c.get(0)[0]).thenComparingInt(c -> -c.get(0)[1]));
            unite();
        }

        String vertex() {
            return "v" + fresh++;
        }

        void tie(String one, String other) {
            edges.computeIfAbsent(one, x -> new ArrayList<>()).add(other);
            edges.computeIfAbsent(other, x -> new ArrayList<>()).add(one);
        }

        /** Ends NW, NE, SW, SE of a tree whose leaves are to be taken times sign. */
        String[] build(Node x, int sign) {
            if (x.kind == 'm') {
                return build(x.a, -sign);
            }
            if (x.kind == 't') {
                String[] e = build(x.a, sign);
                return new String[] {e[1], e[3], e[0], e[2]};
            }
            if (x.kind == '+') {
                String[] e = build(x.a, sign);
                String[] f = build(x.b, sign);
                tie(e[1], f[0]);
                tie(e[3], f[2]);
                return new String[] {e[0], f[1], e[2], f[3]};
            }
            if (x.kind == '*') {
                String[] e = build(x.a, sign);
                String[] f = build(x.b, sign);
                tie(e[2], f[0]);
                tie(e[3], f[1]);
                return new String[] {e[0], e[1], f[2], f[3]};
            }
            if (x.k == 0) {
                String[] e = {vertex(), vertex(), vertex(), vertex()};
                tie(e[0], x.kind == 'i' ? e[2] : e[1]);
                tie(x.kind == 'i' ? e[1] : e[2], e[3]);
                return e;
            }
            int first = above.size();
            int n = Math.abs(x.k);
            for (int j = 0; j < n; j++) {
                above.add(x.k * sign > 0);
                if (j > 0) {
                    tie((first + j - 1) + ":NE", (first + j) + ":NW");
                    tie((first + j - 1) + ":SE", (first + j) + ":SW");
                }
            }
            int last = first + n - 1;
            return new String[] {first + ":NW", last + ":NE", first + ":SW", last + ":SE"};
        }

        static String across(String corner) {
            String[] parts = corner.split(":");
            switch (parts[1]) {
                case "NW": return parts[0] + ":SE";
                case "SE": return parts[0] + ":NW";
                case "SW": return parts[0] + ":NE";
                default: return parts[0] + ":SW";
            }
        }

        /** From a corner outward along ends till another corner comes. */
        String outward(String corner) {
            String before = corner;
            String at = edges.get(corner).get(0);
            while (at.charAt(0) == 'v') {
                List<String> next = edges.get(at);
                String to = next.get(0).equals(before) ? next.get(1) : next.get(0);
                before = at;
                at = to;
            }
            return at;
        }

        /** A pass: crossing, 1 if it is over, 1 if it goes to the east. */
        int[] pass(String entry) {
            String[] parts = entry.split(":");
            int c = Integer.parseInt(parts[0]);
            boolean falls = parts[1].equals("NW") || parts[1].equals("SE");
            boolean east = parts[1].endsWith("W");
            return new int[] {c, falls == above.get(c) ? 1 : 0, east ? 1 : 0};
        }

        void trace() {
            Map<String, Boolean> done = new HashMap<>();
            for (int c = above.size() - 1; c >= 0; c--) {
                for (String corner : CORNERS) {
                    String start = c + ":" + corner;
                    if (done.containsKey(start)) {
                        continue;
                    }
                    List<int[]> passes = new ArrayList<>();
                    String at = start;
                    do {
                        String exit = across(at);
                        passes.add(pass(at));
                        done.put(at, true);
                        done.put(exit, true);
                        at = outward(exit);
                    } while (!at.equals(start));
                    components.add(ordered(passes));
                }
            }
            countCircles();
        }

        static List<int[]> ordered(List<int[]> passes) {
            int begin = 0;
            for (int i = 1; i < passes.size(); i++) {
                int[] p = passes.get(i);
                int[] b = passes.get(begin);
                if (p[0] < b[0] || (p[0] == b[0] && p[1] > b[1])) {
                    begin = i;
                }
            }
            List<int[]> row = new ArrayList<>(passes);
            Collections.rotate(row, -begin);
            if (row.get(0)[2] == 0) {
                List<int[]> back = new ArrayList<>();
                back.add(row.get(0));
                for (int i = row.size() - 1; i > 0; i--) {
                    back.add(row.get(i));
                }
                row = new ArrayList<>();
                for (int[] p : back) {
                    row.add(new int[] {p[0], p[1], 1 - p[2]});
                }
            }
            return row;
        }

        void countCircles() {
            Map<String, Boolean> done = new HashMap<>();
            for (String start : edges.keySet()) {
                if (start.charAt(0) != 'v' || done.containsKey(start)) {
                    continue;
                }
                boolean bare = true;
                ArrayDeque<String> open = new ArrayDeque<>();
                open.add(start);
                done.put(start, true);
                while (!open.isEmpty()) {
                    for (String next : edges.get(open.poll())) {
                        if (next.charAt(0) != 'v') {
                            bare = false;
                        } else if (done.put(next, true) == null) {
                            open.add(next);
                        }
                    }
                }
                if (bare) {
                    circles++;
                }
            }
        }

        String find(String x) {
            String r = root.get(x);
            return r.equals(x) ? x : find(r);
        }

        /** Corners are of one arc, if they are joined outside, or by the strand that is over. */
        void unite() {
            for (int c = 0; c < above.size(); c++) {
                for (String corner : CORNERS) {
                    root.put(c + ":" + corner, c + ":" + corner);
                }
            }
            for (int c = 0; c < above.size(); c++) {
                for (String corner : CORNERS) {
                    root.put(find(c + ":" + corner), find(outward(c + ":" + corner)));
                }
                String over = c + (above.get(c) ? ":NW" : ":SW");
                root.put(find(over), find(across(over)));
            }
        }

        Map<String, Integer> arcs() {
            Map<String, Integer> all = new TreeMap<>();
            for (String corner : root.keySet()) {
                all.putIfAbsent(find(corner), all.size());
            }
            return all;
        }

        int home(int crossing, int over) {
            for (int i = 0; i < components.size(); i++) {
                for (int[] p : components.get(i)) {
                    if (p[0] == crossing && p[1] == over) {
                        return i;
                    }
                }
            }
            throw new IllegalStateException();
        }

        int sign(int crossing) {
            int[] east = new int[2];
            for (List<int[]> c : components) {
                for (int[] p : c) {
                    if (p[0] == crossing) {
                        east[p[1]] = p[2];
                    }
                }
            }
            return (east[0] == east[1]) == above.get(crossing) ? 1 : -1;
        }

        int colours(int p) {
            Map<String, Integer> arcs = arcs();
            int n = arcs.size();
            List<int[]> lines = new ArrayList<>();
            for (int c = 0; c < above.size(); c++) {
                int[] line = new int[n];
                String over = c + (above.get(c) ? ":NW" : ":SW");
                String under = c + (above.get(c) ? ":SW" : ":NW");
                line[arcs.get(find(over))] += 2;
                line[arcs.get(find(under))] -= 1;
                line[arcs.get(find(across(under)))] -= 1;
                lines.add(line);
            }
            int e = n - rank(lines, n, p);
            if (Math.pow(p, n) <= 20000) {
                long ways = tried(lines, n, p);
                long power = 1;
                for (int i = 0; i < e; i++) {
                    power *= p;
                }
                if (power != ways) {
                    throw new IllegalStateException("colours: " + ways + " ways, not " + power);
                }
            }
            return e + circles;
        }

        static int rank(List<int[]> lines, int n, int p) {
            int rank = 0;
            List<int[]> rest = new ArrayList<>();
            for (int[] line : lines) {
                rest.add(line.clone());
            }
            for (int col = n - 1; col >= 0; col--) {
                int[] pivot = null;
                for (int[] line : rest) {
                    if (Math.floorMod(line[col], p) != 0) {
                        pivot = line;
                        break;
                    }
                }
                if (pivot == null) {
                    continue;
                }
                rank++;
                rest.remove(pivot);
                for (int[] line : rest) {
                    int x = line[col];
                    int y = pivot[col];
                    for (int j = 0; j < n; j++) {
                        line[j] = Math.floorMod(line[j] * y - pivot[j] * x, p);
                    }
                }
            }
            return rank;
        }

        static long tried(List<int[]> lines, int n, int p) {
            int[] given = new int[n];
            long ways = 0;
            while (true) {
                boolean all = true;
                for (int[] line : lines) {
                    int sum = 0;
                    for (int j = 0; j < n; j++) {
                        sum += line[j] * given[j];
                    }
                    all &= Math.floorMod(sum, p) == 0;
                }
                ways += all ? 1 : 0;
                int j = 0;
                while (j < n && given[j] == p - 1) {
                    given[j++] = 0;
                }
                if (j == n) {
                    return ways;
                }
                given[j]++;
            }
        }
    }

    // ---- names

    static final Map<List<Integer>, Integer> UNLINKS = new HashMap<>();
    static List<List<List<Integer>>> lists = null;

    static List<Integer> nameOf(BigInteger[] f) {
        int p = f[0].intValueExact();
        int q = f[1].intValueExact();
        int top = Math.abs(p);
        if (top == 0) {
            return List.of(0, 1);
        }
        if (top == 1) {
            return List.of(1, 0);
        }
        int r = BigInteger.valueOf(p < 0 ? -q : q).mod(BigInteger.valueOf(top)).intValueExact();
        int inverse = BigInteger.valueOf(r).modInverse(BigInteger.valueOf(top)).intValueExact();
        return List.of(top, Math.min(r, inverse));
    }

    static List<Integer> glass(List<Integer> name) {
        int p = name.get(0);
        return p > 1 ? nameOf(fraction(p, p - name.get(1))) : name;
    }

    static int sum(List<BigInteger> row) {
        int all = 0;
        for (BigInteger t : row) {
            all += t.intValueExact();
        }
        return all;
    }

    static int size(List<Integer> name) {
        return name.get(0) > 1 ? sum(row(fraction(name.get(0), name.get(1)), 3, 100)) : 0;
    }

    static int genus(List<Integer> name) {
        int p = name.get(0);
        int q = name.get(1);
        if (p <= 1) {
            return 0;
        }
        BigInteger[] f = p % 2 == 0 || q % 2 == 0 ? fraction(p, q) : fraction(p, q - p);
        return row(f, 2, 1000).size() / 2;
    }

    /** What each change leads to; null for one that does not count. */
    static List<List<Integer>> changes(List<Integer> name) {
        List<List<Integer>> all = new ArrayList<>();
        List<BigInteger> terms = row(fraction(name.get(0), name.get(1)), 0, 100);
        for (int i = 0; i < terms.size(); i++) {
            List<BigInteger> other = new ArrayList<>(terms);
            other.set(i, other.get(i).subtract(BigInteger.TWO));
            BigInteger[] pair = pairOf(other, 1, null);
            List<Integer> next = nameOf(fraction(pair[0], pair[1]));
            all.add(size(next) < size(name) ? next : null);
        }
        return all;
    }

    static int unlink(List<Integer> name) {
        if (name.get(0) <= 1) {
            return 0;
        }
        Integer known = UNLINKS.get(name);
        if (known != null) {
            return known;
        }
        int best = Integer.MAX_VALUE;
        for (List<Integer> next : changes(name)) {
            if (next != null) {
                best = Math.min(best, 1 + unlink(next));
            }
        }
        UNLINKS.put(name, best);
        return best;
    }

    /** The last pair of a row of terms; limit null: none is too big. */
    static BigInteger[] pairOf(List<BigInteger> row, int sign, BigInteger limit) {
        BigInteger u = row.get(row.size() - 1);
        BigInteger v = BigInteger.ONE;
        if (limit != null && u.abs().compareTo(limit) > 0) {
            throw new Err(BIG);
        }
        for (int i = row.size() - 2; i >= 0; i--) {
            BigInteger next = row.get(i).multiply(u).add(sign > 0 ? v : v.negate());
            v = u;
            u = next;
            if (limit != null && u.abs().compareTo(limit) > 0) {
                throw new Err(BIG);
            }
        }
        return new BigInteger[] {u, v};
    }

    static List<List<Integer>> listOf(int size) {
        if (lists == null) {
            lists = new ArrayList<>();
            for (int s = 0; s <= 12; s++) {
                lists.add(new ArrayList<>());
            }
            for (int p = 2; p <= 300; p++) {
                for (int q = 1; q < p; q++) {
                    if (BigInteger.valueOf(p).gcd(BigInteger.valueOf(q)).intValue() == 1
                            && nameOf(fraction(p, q)).get(1) == q) {
                        int s = size(List.of(p, q));
                        if (s <= 12) {
                            lists.get(s).add(List.of(p, q));
                        }
                    }
                }
            }
        }
        return lists.get(size);
    }

    // ---- the state

    Node[] slots = new Node[6];
    Node[] kept = null;
    int z = 1;
    int keptZ = 0;
    int images = 0;
    List<Integer> tape = new ArrayList<>();
    final Map<List<Integer>, Integer> book = new java.util.LinkedHashMap<>();
    final int[] sheetBits = new int[4];
    final long[][] sheetNumbers = new long[4][0];
    final int[] told = new int[7];

    Model() {
        Arrays.fill(slots, Node.leaf(0));
    }

    static void need(boolean holds, int kind) {
        if (!holds) {
            throw new Err(kind);
        }
    }

    static boolean in(int x, int low, int high) {
        return x >= low && x <= high;
    }

    BigInteger[] fractionOf(int slot) {
        BigInteger[] pair = slots[slot].pair();
        return fraction(pair[0], pair[1]);
    }

    /** The answer to a call, by its name and arguments. */
    long ask(String call, long... a) {
        int[] x = new int[a.length];
        for (int i = 0; i < a.length; i++) {
            x[i] = (int) a[i];
        }
        boolean isLong = call.equals("of") || call.equals("value");
        try {
            return answer(call, x, a);
        } catch (Err e) {
            told[e.kind]++;
            return (isLong ? -9000000000000000000L : -1000000000L) - e.kind;
        }
    }

    private long answer(String call, int[] x, long[] a) {
        switch (call) {
            case "slot": return slot(x[0], x[1]);
            case "leaf":
                need(in(x[0], 0, 5) && in(x[1], -9, 10), BEYOND);
                slots[x[0]] = Node.leaf(x[1]);
                return slots[x[0]].crossings();
            case "join": {
                need(in(x[0], 0, 5) && in(x[1], 0, 5) && in(x[2], 0, 1) && in(x[3], 0, 5), BEYOND);
                Node made = new Node(x[2] == 0 ? '+' : '*', 0, slots[x[0]], slots[x[1]]);
                need(made.fits(), FULL);
                slots[x[3]] = made;
                return made.crossings();
            }
            case "move": {
                need(in(x[0], 0, 5) && in(x[1], 0, 5), BEYOND);
                Node made = slots[x[0]].moved(x[1]);
                need(made.fits(), FULL);
                slots[x[0]] = made;
                return made.crossings();
            }
            case "feed": return feed(a[0], x[1]);
            case "tangle": return text(x[0]);
            case "moves": return moves(x[0]);
            case "term": return term(x[0], x[1]);
            case "dance": return dance(x[0], x[1]);
            case "least": return least(x[0], x[1], x[2], x[3]);
            case "link": case "crossing": case "linked": case "gauss": case "colours": return links(call, x);
            case "name": case "alike": case "listed": case "enter": case "book": case "ranked": case "entered":
                return names(call, x);
            case "sheet": case "put": case "of": case "shift": case "terms": case "value": case "judge":
                return sheets(call, x, a);
            default: return rest(call, x);
        }
    }

    private long slot(int slot, int what) {
        need(in(slot, 0, 5) && in(what, 0, 8), BEYOND);
        Node n = slots[slot];
        switch (what) {
            case 0: return n.leaves();
            case 1: return n.crossings();
            case 2: return n.parts();
            case 3: return n.depth();
            case 4: return n.pair()[0].intValueExact();
            case 5: return n.pair()[1].intValueExact();
            case 6: return n.rational() ? 1 : 0;
            default:
                need(fractionOf(slot) != null, NONE);
                return fractionOf(slot)[what - 7].intValueExact();
        }
    }

    private long feed(long word, int n) {
        need(in(n, 1, 8), BEYOND);
        need(tape.size() + n <= 100, FULL);
        for (int i = 0; i < n; i++) {
            tape.add((int) (word & 255));
            word >>= 8;
        }
        return tape.size();
    }

    // A reader by descent: one method for each sign of the grammar.
    private List<Integer> said;
    private int at;

    private int peek() {
        return at < said.size() ? said.get(at) : -1;
    }

    private Node readE(int open) {
        Node left = readS(open);
        while (peek() == '+') {
            at++;
            left = new Node('+', 0, left, readS(open));
        }
        return left;
    }

    private Node readS(int open) {
        Node left = readU(open);
        while (peek() == '*') {
            at++;
            left = new Node('*', 0, left, readU(open));
        }
        return left;
    }

    private Node readU(int open) {
        int c = peek();
        if (c == '-') {
            at++;
            if (!in(peek(), '0', '9')) {
                throw new Fault(at);
            }
            return Node.leaf(-(said.get(at++) - '0'));
        }
        if (in(c, '0', '9')) {
            at++;
            return Node.leaf(c - '0');
        }
        if (c == 'i') {
            at++;
            return Node.leaf(10);
        }
        if ((c == '(' || c == 't' || c == 'm') && open < 6) {
            at++;
            if (c != '(') {
                return new Node((char) c, 0, readU(open + 1), null);
            }
            Node inner = readE(open + 1);
            if (peek() != ')') {
                throw new Fault(at);
            }
            at++;
            return inner;
        }
        throw new Fault(at);
    }

    private long text(int slot) {
        need(in(slot, 0, 5), BEYOND);
        said = tape;
        tape = new ArrayList<>();
        at = 0;
        Node made;
        try {
            made = readE(0);
            if (at < said.size()) {
                throw new Fault(at);
            }
        } catch (Fault f) {
            return -10 - f.place;
        }
        need(made.fits(), FULL);
        slots[slot] = made;
        return made.crossings();
    }

    private long moves(int slot) {
        need(in(slot, 0, 5), BEYOND);
        StringBuilder all = new StringBuilder();
        for (int b : tape) {
            all.append((char) b);
        }
        tape = new ArrayList<>();
        List<String> words = List.of("twist", "untwist", "turn", "mirror", "drop", "lift");
        List<Integer> found = new ArrayList<>();
        int place = 0;
        for (String word : all.toString().split(" ", -1)) {
            if (!word.isEmpty()) {
                if (!words.contains(word)) {
                    return -10 - place;
                }
                found.add(words.indexOf(word));
            }
            place += word.length() + 1;
        }
        Node made = slots[slot];
        for (int move : found) {
            made = made.moved(move);
            need(made.fits(), FULL);
        }
        slots[slot] = made;
        return found.size();
    }

    private long term(int slot, int i) {
        need(in(slot, 0, 5) && i >= -1, BEYOND);
        BigInteger[] f = fractionOf(slot);
        need(f != null, NONE);
        List<BigInteger> row = row(f, 3, 1000);
        if (i == -1) {
            return row.size();
        }
        need(i < row.size(), NONE);
        return row.get(i).intValueExact();
    }

    private long dance(int slot, int i) {
        need(in(slot, 0, 5) && i >= -1, BEYOND);
        BigInteger[] f = fractionOf(slot);
        need(f != null, NONE);
        long p = f[0].longValueExact();
        long q = f[1].longValueExact();
        int n = 0;
        while (p != 0) {
            boolean twist = p < 0;
            if (n == i) {
                return twist ? 0 : 2;
            }
            if (twist) {
                p += q;
            } else if (q == 0) {
                p = 0;
                q = 1;
            } else {
                long before = p;
                p = -q;
                q = before;
            }
            n++;
        }
        need(i == -1, NONE);
        return n;
    }

    private long least(int from, int to, int n, int what) {
        need(in(from, 0, 5) && in(to, 0, 5) && in(n, 0, 8) && in(what, 0, 1), BEYOND);
        need(fractionOf(from) != null && fractionOf(to) != null, NONE);
        List<BigInteger> goal = Arrays.asList(fractionOf(to));
        // Fractions in the order in which rows lead there first: shorter rows first, then as rows.
        Map<List<BigInteger>, String> known = new HashMap<>();
        List<List<BigInteger>> level = new ArrayList<>();
        level.add(Arrays.asList(fractionOf(from)));
        known.put(level.get(0), "1");
        for (int steps = 0; steps < n && !known.containsKey(goal); steps++) {
            List<List<BigInteger>> next = new ArrayList<>();
            for (List<BigInteger> f : level) {
                BigInteger p = f.get(0);
                BigInteger q = f.get(1);
                BigInteger[][] to3 = {fraction(p.add(q), q), fraction(p.subtract(q), q), fraction(q.negate(), p)};
                for (int m = 0; m < 3; m++) {
                    List<BigInteger> g = Arrays.asList(to3[m]);
                    if (!known.containsKey(g)) {
                        known.put(g, known.get(f) + m);
                        next.add(g);
                    }
                }
            }
            level = next;
        }
        String row = known.get(goal);
        need(row != null, NONE);
        return what == 0 ? row.length() - 1 : Long.parseLong(row);
    }

    private long links(String call, int[] x) {
        int s = call.equals("gauss") ? 1 : 0;
        need(in(x[s], 0, 5) && in(x[s + 1], 0, 1) && (s == 0 || in(x[0], 0, 3)), BEYOND);
        Node tree = slots[x[s]];
        Curves curves = new Curves(tree, x[s + 1]);
        int n = curves.components.size();
        switch (call) {
            case "link":
                need(in(x[2], 0, 4), BEYOND);
                if (x[2] == 3) {
                    int all = 0;
                    for (int c = 0; c < tree.crossings(); c++) {
                        all += curves.sign(c);
                    }
                    return all;
                }
                return x[2] == 0 ? n : x[2] == 1 ? curves.circles : x[2] == 2 ? curves.arcs().size() + curves.circles
                        : tree.pair()[x[1]].abs().intValueExact();
            case "crossing":
                need(in(x[2], 0, tree.crossings() - 1) && in(x[3], 0, 2), BEYOND);
                return x[3] == 2 ? curves.sign(x[2]) : curves.home(x[2], 1 - x[3]);
            case "linked": {
                need(in(x[2], 0, n - 1) && in(x[3], 0, n - 1), NONE);
                need(x[2] != x[3], KIND);
                int all = 0;
                for (int c = 0; c < tree.crossings(); c++) {
                    int over = curves.home(c, 1);
                    int under = curves.home(c, 0);
                    if (over != under && (over == x[2] || over == x[3]) && (under == x[2] || under == x[3])) {
                        all += curves.sign(c);
                    }
                }
                if (all % 2 != 0) {
                    throw new IllegalStateException("odd linking");
                }
                return all / 2;
            }
            case "gauss": {
                need(in(x[3], 0, n - 1), NONE);
                List<int[]> passes = curves.components.get(x[3]);
                sheetBits[x[0]] = 8;
                sheetNumbers[x[0]] = new long[passes.size()];
                for (int i = 0; i < passes.size(); i++) {
                    int[] p = passes.get(i);
                    sheetNumbers[x[0]][i] = p[1] == 1 ? p[0] + 1 : -p[0] - 1;
                }
                return passes.size();
            }
            default:
                need(List.of(2, 3, 5, 7, 11, 13).contains(x[2]), BEYOND);
                return curves.colours(x[2]);
        }
    }

    private List<Integer> nameOf(int slot, int side) {
        Node n = side == 0 ? slots[slot] : slots[slot].moved(2);
        return nameOf(fraction(n.pair()[0], n.pair()[1]));
    }

    private long names(String call, int[] x) {
        switch (call) {
            case "name": {
                need(in(x[0], 0, 5) && in(x[1], 0, 1) && in(x[2], 0, 6), BEYOND);
                need(slots[x[0]].rational(), STATE);
                List<Integer> name = nameOf(x[0], x[1]);
                if (x[2] < 2) {
                    return name.get(x[2]);
                }
                if (x[2] == 2) {
                    return size(name);
                }
                if (x[2] == 3) {
                    return genus(name);
                }
                if (x[2] == 4) {
                    return glass(name).equals(name) ? 1 : 0;
                }
                need(size(name) <= 12, BIG);
                int u = unlink(name);
                if (x[2] == 5) {
                    return u;
                }
                need(u > 0, NONE);
                List<List<Integer>> all = changes(name);
                for (int i = 0; ; i++) {
                    if (all.get(i) != null && unlink(all.get(i)) == u - 1) {
                        return i;
                    }
                }
            }
            case "alike": {
                need(in(x[0], 0, 5) && in(x[1], 0, 1) && in(x[2], 0, 5) && in(x[3], 0, 1), BEYOND);
                need(slots[x[0]].rational() && slots[x[2]].rational(), STATE);
                List<Integer> one = nameOf(x[0], x[1]);
                List<Integer> other = nameOf(x[2], x[3]);
                return (one.equals(other) ? 1 : 0) + (glass(one).equals(other) ? 2 : 0);
            }
            case "listed":
                need(in(x[0], 2, 12) && in(x[2], -1, 1), BEYOND);
                need(x[2] == -1 || x[1] >= 0, BEYOND);
                if (x[2] == -1) {
                    return listOf(x[0]).size();
                }
                need(x[1] < listOf(x[0]).size(), NONE);
                return listOf(x[0]).get(x[1]).get(x[2]);
            case "enter": {
                need(in(x[0], 0, 5) && in(x[1], 0, 1), BEYOND);
                need(slots[x[0]].rational(), STATE);
                List<Integer> name = nameOf(x[0], x[1]);
                need(book.containsKey(name) || book.size() < 40, FULL);
                return book.merge(name, 1, Integer::sum);
            }
            case "book": case "ranked": {
                need(in(x[1], 0, 2), BEYOND);
                List<Map.Entry<List<Integer>, Integer>> all = new ArrayList<>(book.entrySet());
                if (call.equals("ranked")) {
                    all.sort(Comparator.comparingInt((Map.Entry<List<Integer>, Integer> e) -> -e.getValue())
                            .thenComparingInt(e -> e.getKey().get(0)).thenComparingInt(e -> e.getKey().get(1)));
                }
                need(in(x[0], 0, all.size() - 1), NONE);
                return x[1] == 2 ? all.get(x[0]).getValue() : all.get(x[0]).getKey().get(x[1]);
            }
            default:
                return book.getOrDefault(List.of(x[0], x[1]), 0);
        }
    }

    private static long trimmed(long v, int bits) {
        return bits == 8 ? (byte) v : bits == 16 ? (short) v : bits == 32 ? (int) v : v;
    }

    private List<BigInteger> numbersOf(int sheet) {
        List<BigInteger> all = new ArrayList<>();
        for (long v : sheetNumbers[sheet]) {
            all.add(BigInteger.valueOf(v));
        }
        return all;
    }

    private long sheets(String call, int[] x, long[] a) {
        need(in(x[0], 0, 3), BEYOND);
        int s = x[0];
        switch (call) {
            case "sheet":
                need(List.of(0, 8, 16, 32, 64).contains(x[1]), BEYOND);
                need(x[1] == 0 || x[2] >= 0, STATE);
                need(x[1] == 0 || x[2] <= 48, BEYOND);
                sheetBits[s] = x[1];
                sheetNumbers[s] = new long[x[1] == 0 ? 0 : x[2]];
                return 1;
            case "put":
                need(sheetBits[s] != 0, NONE);
                need(in(x[1], 0, sheetNumbers[s].length - 1), BEYOND);
                sheetNumbers[s][x[1]] = trimmed(a[2], sheetBits[s]);
                return 1;
            case "of":
                need(sheetBits[s] != 0, NONE);
                need(in(x[1], 0, sheetNumbers[s].length - 1), BEYOND);
                return sheetNumbers[s][x[1]];
            case "shift": {
                need(in(x[2], 0, 3), BEYOND);
                int t = x[2];
                need(sheetBits[s] != 0 && sheetBits[t] != 0, NONE);
                need(sheetBits[s] == sheetBits[t], KIND);
                need(x[1] >= 0 && x[3] >= 0 && x[4] >= 0, BEYOND);
                need(a[1] + a[4] <= sheetNumbers[s].length && a[3] + a[4] <= sheetNumbers[t].length, BEYOND);
                long[] before = sheetNumbers[s].clone();
                for (int i = 0; i < x[4]; i++) {
                    sheetNumbers[t][x[3] + i] = before[x[1] + i];
                }
                return x[4];
            }
            case "terms": {
                int most = 999999999;
                need(in(x[1], -most, most) && in(x[2], -most, most) && x[2] != 0 && in(x[3], 0, 3), BEYOND);
                BigInteger[] f = fraction(x[1], x[2]);
                need(x[3] != 2 || !f[0].testBit(0) || !f[1].testBit(0), STATE);
                List<BigInteger> row = row(f, x[3], 48);
                need(row != null, FULL);
                sheetBits[s] = 64;
                sheetNumbers[s] = new long[row.size()];
                for (int i = 0; i < row.size(); i++) {
                    sheetNumbers[s][i] = row.get(i).longValueExact();
                }
                return row.size();
            }
            case "value":
                need(in(x[1], 0, 1) && in(x[2], 0, 1), BEYOND);
                need(sheetBits[s] != 0 && sheetNumbers[s].length > 0, NONE);
                return pairOf(numbersOf(s), x[1] == 0 ? 1 : -1, BigInteger.TEN.pow(18))[x[2]].longValueExact();
            default: {
                need(in(x[1], 0, 5), BEYOND);
                need(sheetBits[s] != 0 && fractionOf(x[1]) != null, NONE);
                List<BigInteger> one = numbersOf(s);
                List<BigInteger> other = row(fractionOf(x[1]), 3, 1000);
                for (int i = 0; ; i++) {
                    if (i >= one.size() && i >= other.size()) {
                        return -1;
                    }
                    if (i >= one.size() || i >= other.size() || !one.get(i).equals(other.get(i))) {
                        return i;
                    }
                }
            }
        }
    }

    private int crossings() {
        int all = 0;
        for (Node n : slots) {
            all += n.crossings();
        }
        return all;
    }

    private long rest(String call, int[] x) {
        switch (call) {
            case "seed": {
                int before = z;
                z = x[0];
                return before;
            }
            case "loose": {
                need(in(x[0], 0, 5) && in(x[1], 1, 20), BEYOND);
                int done = 0;
                for (int i = 0; i < x[1]; i++) {
                    z = z * 1103515245 + 12345;
                    Node made = slots[x[0]].moved((z >>> 8) % 6);
                    if (made.fits()) {
                        slots[x[0]] = made;
                        done++;
                    }
                }
                return done;
            }
            case "image":
                kept = slots.clone();
                keptZ = z;
                return ++images;
            case "restore":
                need(kept != null, NONE);
                slots = kept.clone();
                z = keptZ;
                return crossings();
            case "count": {
                need(in(x[0], 0, 5), BEYOND);
                int rational = 0;
                for (Node n : slots) {
                    rational += n.rational() ? 1 : 0;
                }
                int entered = 0;
                for (int times : book.values()) {
                    entered += times;
                }
                return new int[] {crossings(), rational, tape.size(), book.size(), entered, z}[x[0]];
            }
            case "told":
                need(in(x[0], 1, 6), BEYOND);
                return told[x[0]];
            default:
                throw new IllegalStateException(call);
        }
    }
}
