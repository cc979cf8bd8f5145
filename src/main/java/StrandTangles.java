import java.util.Arrays;

/**
 * Tangles of two strands, their fractions, the links that come of joining their ends, and the names
 * of those links. What each call promises stands in the document; README.md says how to use it.
 */
public final class StrandTangles {
    private static final int LOW = -1000000000;
    private static final long LONG_LOW = -9000000000000000000L;
    private static final int BEYOND = 1;
    private static final int NONE = 2;
    private static final int STATE = 3;
    private static final int FULL = 4;
    private static final int KIND = 5;
    private static final int BIG = 6;

    private static final int SLOTS = 6;
    private static final int SHEETS = 4;
    private static final int MOST_LEAVES = 24;
    private static final int MOST_CROSSINGS = 24;
    private static final int MOST_PARTS = 60;
    private static final int MOST_BYTES = 100;
    private static final int MOST_NUMBERS = 48;
    private static final int MOST_NAMES = 40;
    private static final int MOST_OPEN = 6;
    private static final int MOST_STEPS = 8;
    private static final int MOST_DRAWS = 20;
    private static final int LEAST_SIZE = 2;
    private static final int MOST_SIZE = 12;
    private static final int MOST_WHOLE = 999999999;

    /** A tangle's parts stand in a row, each node behind what it is made of: -9 to 9 are leaves. */
    private static final int LAST_DIGIT = 9;
    private static final int UPRIGHT = 10;
    private static final int SUM = 11;
    private static final int STACK = 12;
    private static final int TURNED = 13;
    private static final int MIRRORED = 14;

    private static final int TWIST = 0;
    private static final int UNTWIST = 1;
    private static final int TURN = 2;
    private static final int MIRROR = 3;
    private static final int DROP = 4;
    private static final int LIFT = 5;
    private static final int MOVES = 6;

    private static final int FLOOR = 0;
    private static final int CEILING = 1;
    private static final int EVEN = 2;
    private static final int SAME = 3;

    private final Tangle[] slots = new Tangle[SLOTS];
    private final Tangle[] kept = new Tangle[SLOTS];
    private final Tangle work = new Tangle(MOST_PARTS);
    private final Gauge gauge = new Gauge();
    private final Tape tape = new Tape();
    private final Diagram diagram = new Diagram();
    private final Colouring colouring = new Colouring();
    private final Unlinking unlinking = new Unlinking();
    private final Listing listing = new Listing();
    private final Book entries = new Book();
    private final Sheet[] sheets = new Sheet[SHEETS];
    private final Sheet row = new Sheet();
    private final int[] errors = new int[BIG + 1];
    private int z = 1;
    private int keptZ = 1;
    private int images = 0;

    public StrandTangles() {
        for (int i = 0; i < SLOTS; i++) {
            slots[i] = new Tangle(MOST_PARTS);
            kept[i] = new Tangle(MOST_PARTS);
        }
        for (int i = 0; i < SHEETS; i++) {
            sheets[i] = new Sheet();
        }
    }

    // ---- slots, trees

    public int slot(int slot, int what) {
        if (!isSlot(slot) || what < 0 || what > 8) {
            return error(BEYOND);
        }
        Tangle tangle = slots[slot];
        if (what >= 7 && !tangle.hasFraction) {
            return error(NONE);
        }
        switch (what) {
            case 0: return tangle.leaves;
            case 1: return tangle.crossings;
            case 2: return tangle.size;
            case 3: return tangle.depth;
            case 4: return tangle.top;
            case 5: return tangle.bottom;
            case 6: return tangle.rational ? 1 : 0;
            case 7: return tangle.fractionTop;
            default: return tangle.fractionBottom;
        }
    }

    public int leaf(int slot, int k) {
        if (!isSlot(slot) || k < -LAST_DIGIT || k > UPRIGHT) {
            return error(BEYOND);
        }
        Tangle tangle = slots[slot];
        tangle.clear();
        tangle.add(k);
        gauge.measure(tangle);
        return tangle.crossings;
    }

    public int join(int one, int other, int how, int into) {
        if (!isSlot(one) || !isSlot(other) || !isChoice(how) || !isSlot(into)) {
            return error(BEYOND);
        }
        Tangle first = slots[one];
        Tangle second = slots[other];
        if (!first.hasRoom(second.leaves, second.crossings, second.size + 1)) {
            return error(FULL);
        }
        work.copy(first);
        work.append(second);
        work.add(how == 0 ? SUM : STACK);
        return settle(work, into);
    }

    public int move(int slot, int move) {
        if (!isSlot(slot) || move < 0 || move >= MOVES) {
            return error(BEYOND);
        }
        Tangle tangle = slots[slot];
        if (!tangle.advance(move)) {
            return error(FULL);
        }
        gauge.measure(tangle);
        return tangle.crossings;
    }

    public int feed(long word, int n) {
        if (n < 1 || n > 8) {
            return error(BEYOND);
        }
        if (!tape.hasRoom(n)) {
            return error(FULL);
        }
        for (int i = 0; i < n; i++) {
            tape.take((int) (word >>> (8 * i)) & 255);
        }
        return tape.length;
    }

    public int tangle(int slot) {
        if (!isSlot(slot)) {
            return error(BEYOND);
        }
        int fault = tape.readText();
        tape.length = 0;
        if (fault >= 0) {
            return -10 - fault;
        }
        if (!tape.text.isWithinLimits()) {
            return error(FULL);
        }
        return settle(tape.text, slot);
    }

    public int moves(int slot) {
        if (!isSlot(slot)) {
            return error(BEYOND);
        }
        int fault = tape.readMoves();
        tape.length = 0;
        if (fault >= 0) {
            return -10 - fault;
        }
        work.copy(slots[slot]);
        for (int i = 0; i < tape.moveCount; i++) {
            if (!work.advance(tape.readMove(i))) {
                return error(FULL);
            }
        }
        settle(work, slot);
        return tape.moveCount;
    }

    // ---- fractions

    public int term(int slot, int i) {
        if (!isSlot(slot) || i < -1) {
            return error(BEYOND);
        }
        Tangle tangle = slots[slot];
        if (!tangle.hasFraction) {
            return error(NONE);
        }
        row.expand(tangle.fractionTop, tangle.fractionBottom, SAME);
        if (i == -1) {
            return row.length;
        }
        if (!row.has(i)) {
            return error(NONE);
        }
        return (int) row.at(i);
    }

    public int dance(int slot, int i) {
        if (!isSlot(slot) || i < -1) {
            return error(BEYOND);
        }
        Tangle tangle = slots[slot];
        if (!tangle.hasFraction) {
            return error(NONE);
        }
        int answer = Fractions.danced(tangle.fractionTop, tangle.fractionBottom, i);
        return answer < 0 ? error(NONE) : answer;
    }

    public int least(int from, int to, int n, int what) {
        if (!isSlot(from) || !isSlot(to) || n < 0 || n > MOST_STEPS || !isChoice(what)) {
            return error(BEYOND);
        }
        Tangle start = slots[from];
        Tangle goal = slots[to];
        if (!start.hasFraction || !goal.hasFraction) {
            return error(NONE);
        }
        for (int steps = 0; steps <= n; steps++) {
            int found = Fractions.rowOf(start, goal, steps);
            if (found > 0) {
                return what == 0 ? steps : found;
            }
        }
        return error(NONE);
    }

    // ---- links

    public int link(int slot, int side, int what) {
        if (!isSlot(slot) || !isChoice(side) || what < 0 || what > 4) {
            return error(BEYOND);
        }
        Tangle tangle = slots[slot];
        if (what == 4) {
            return Math.abs(side == 0 ? tangle.top : tangle.bottom);
        }
        diagram.draw(tangle, side);
        switch (what) {
            case 0: return diagram.components;
            case 1: return diagram.circles;
            case 2: return diagram.arcs();
            default: return diagram.writhe();
        }
    }

    public int crossing(int slot, int side, int crossing, int what) {
        if (!isSlot(slot) || !isChoice(side) || what < 0 || what > 2) {
            return error(BEYOND);
        }
        Tangle tangle = slots[slot];
        if (crossing < 0 || crossing >= tangle.crossings) {
            return error(BEYOND);
        }
        diagram.draw(tangle, side);
        switch (what) {
            case 0: return diagram.overAt(crossing);
            case 1: return diagram.underAt(crossing);
            default: return diagram.signAt(crossing);
        }
    }

    public int linked(int slot, int side, int one, int other) {
        if (!isSlot(slot) || !isChoice(side)) {
            return error(BEYOND);
        }
        diagram.draw(slots[slot], side);
        if (!diagram.hasComponent(one) || !diagram.hasComponent(other)) {
            return error(NONE);
        }
        if (one == other) {
            return error(KIND);
        }
        return diagram.linking(one, other);
    }

    public int gauss(int sheet, int slot, int side, int component) {
        if (!isSheet(sheet) || !isSlot(slot) || !isChoice(side)) {
            return error(BEYOND);
        }
        diagram.draw(slots[slot], side);
        if (!diagram.hasComponent(component)) {
            return error(NONE);
        }
        Sheet target = sheets[sheet];
        int n = diagram.passesOf(component);
        target.reset(8, n);
        for (int i = 0; i < n; i++) {
            target.store(i, diagram.passAt(component, i));
        }
        return n;
    }

    public int colours(int slot, int side, int p) {
        if (!isSlot(slot) || !isChoice(side) || !Colouring.serves(p)) {
            return error(BEYOND);
        }
        diagram.draw(slots[slot], side);
        return colouring.freedom(diagram, p);
    }

    // ---- names

    public int name(int slot, int side, int what) {
        if (!isSlot(slot) || !isChoice(side) || what < 0 || what > 6) {
            return error(BEYOND);
        }
        Tangle tangle = slots[slot];
        if (!tangle.rational) {
            return error(STATE);
        }
        long name = nameOf(tangle, side);
        switch (what) {
            case 0: return Names.topOf(name);
            case 1: return Names.bottomOf(name);
            case 2: return Names.sizeOf(name);
            case 3: return genusOf(name);
            case 4: return Names.glassOf(name) == name ? 1 : 0;
            default: return unlinked(name, what == 6);
        }
    }

    private int unlinked(long name, boolean wantsPlace) {
        if (Names.sizeOf(name) > MOST_SIZE) {
            return error(BIG);
        }
        int number = unlinking.numberOf(name);
        if (!wantsPlace) {
            return number;
        }
        return number == 0 ? error(NONE) : unlinking.placeOf(name, number);
    }

    private int genusOf(long name) {
        int p = Names.topOf(name);
        int q = Names.bottomOf(name);
        if (p <= 1) {
            return 0;
        }
        boolean bothOdd = (p & q & 1) == 1;
        if (bothOdd) {
            row.expand(-p, p - q, EVEN);
        } else {
            row.expand(p, q, EVEN);
        }
        return row.length / 2;
    }

    public int alike(int one, int side, int other, int otherSide) {
        if (!isSlot(one) || !isChoice(side) || !isSlot(other) || !isChoice(otherSide)) {
            return error(BEYOND);
        }
        if (!slots[one].rational || !slots[other].rational) {
            return error(STATE);
        }
        long first = nameOf(slots[one], side);
        long second = nameOf(slots[other], otherSide);
        return (first == second ? 1 : 0) + (Names.glassOf(first) == second ? 2 : 0);
    }

    public int listed(int size, int i, int what) {
        if (size < LEAST_SIZE || size > MOST_SIZE || what < -1 || what > 1) {
            return error(BEYOND);
        }
        if (what == -1) {
            return listing.lengthOf(size);
        }
        if (i < 0) {
            return error(BEYOND);
        }
        if (i >= listing.lengthOf(size)) {
            return error(NONE);
        }
        return what == 0 ? listing.topAt(size, i) : listing.bottomAt(size, i);
    }

    public int enter(int slot, int side) {
        if (!isSlot(slot) || !isChoice(side)) {
            return error(BEYOND);
        }
        Tangle tangle = slots[slot];
        if (!tangle.rational) {
            return error(STATE);
        }
        int times = entries.inscribe(nameOf(tangle, side));
        return times == 0 ? error(FULL) : times;
    }

    public int book(int i, int what) {
        if (what < 0 || what > 2) {
            return error(BEYOND);
        }
        if (!entries.has(i)) {
            return error(NONE);
        }
        return entries.tell(i, what);
    }

    public int ranked(int i, int what) {
        if (what < 0 || what > 2) {
            return error(BEYOND);
        }
        if (!entries.has(i)) {
            return error(NONE);
        }
        return entries.tell(entries.atRank(i), what);
    }

    public int entered(int p, int q) {
        return entries.timesOf(p, q);
    }

    // ---- sheets

    public int sheet(int sheet, int bits, int n) {
        boolean known = bits == 0 || bits == 8 || bits == 16 || bits == 32 || bits == 64;
        if (!isSheet(sheet) || !known) {
            return error(BEYOND);
        }
        if (bits == 0) {
            sheets[sheet].reset(0, 0);
            return 1;
        }
        if (n < 0) {
            return error(STATE);
        }
        if (n > MOST_NUMBERS) {
            return error(BEYOND);
        }
        sheets[sheet].reset(bits, n);
        return 1;
    }

    public int put(int sheet, int i, long v) {
        if (!isSheet(sheet)) {
            return error(BEYOND);
        }
        Sheet target = sheets[sheet];
        if (target.isMissing()) {
            return error(NONE);
        }
        if (!target.has(i)) {
            return error(BEYOND);
        }
        target.store(i, v);
        return 1;
    }

    public long of(int sheet, int i) {
        if (!isSheet(sheet)) {
            return longError(BEYOND);
        }
        Sheet source = sheets[sheet];
        if (source.isMissing()) {
            return longError(NONE);
        }
        if (!source.has(i)) {
            return longError(BEYOND);
        }
        return source.at(i);
    }

    public int shift(int sheet, int i, int other, int j, int n) {
        if (!isSheet(sheet) || !isSheet(other)) {
            return error(BEYOND);
        }
        Sheet source = sheets[sheet];
        Sheet target = sheets[other];
        if (source.isMissing() || target.isMissing()) {
            return error(NONE);
        }
        if (source.bits != target.bits) {
            return error(KIND);
        }
        if (!source.hasRun(i, n) || !target.hasRun(j, n)) {
            return error(BEYOND);
        }
        target.bring(source, i, j, n);
        return n;
    }

    public int terms(int sheet, int p, int q, int how) {
        if (!isSheet(sheet) || !isWhole(p) || !isWhole(q) || q == 0 || how < FLOOR || how > SAME) {
            return error(BEYOND);
        }
        int divisor = Fractions.divisorOf(p, q);
        int top = q < 0 ? -p / divisor : p / divisor;
        int bottom = Math.abs(q) / divisor;
        boolean bothOdd = (top & bottom & 1) == 1;
        if (how == EVEN && bothOdd) {
            return error(STATE);
        }
        if (!row.expand(top, bottom, how)) {
            return error(FULL);
        }
        Sheet target = sheets[sheet];
        target.reset(64, row.length);
        target.bring(row, 0, 0, row.length);
        return target.length;
    }

    public long value(int sheet, int how, int what) {
        if (!isSheet(sheet) || !isChoice(how) || !isChoice(what)) {
            return longError(BEYOND);
        }
        Sheet source = sheets[sheet];
        if (source.isMissing() || source.length == 0) {
            return longError(NONE);
        }
        if (!source.workOut(how == 0 ? 1 : -1)) {
            return longError(BIG);
        }
        return what == 0 ? source.top : source.bottom;
    }

    public int judge(int sheet, int slot) {
        if (!isSheet(sheet) || !isSlot(slot)) {
            return error(BEYOND);
        }
        Sheet source = sheets[sheet];
        Tangle tangle = slots[slot];
        if (source.isMissing() || !tangle.hasFraction) {
            return error(NONE);
        }
        row.expand(tangle.fractionTop, tangle.fractionBottom, SAME);
        return source.firstUnlike(row);
    }

    // ---- draws, images, what is told

    public int seed(int v) {
        int before = z;
        z = v;
        return before;
    }

    public int loose(int slot, int n) {
        if (!isSlot(slot) || n < 1 || n > MOST_DRAWS) {
            return error(BEYOND);
        }
        Tangle tangle = slots[slot];
        int done = 0;
        for (int i = 0; i < n; i++) {
            z = z * 1103515245 + 12345;
            if (tangle.advance((z >>> 8) % MOVES)) {
                done++;
            }
        }
        gauge.measure(tangle);
        return done;
    }

    public int image() {
        for (int i = 0; i < SLOTS; i++) {
            kept[i].copy(slots[i]);
        }
        keptZ = z;
        images++;
        return images;
    }

    public int restore() {
        if (images == 0) {
            return error(NONE);
        }
        for (int i = 0; i < SLOTS; i++) {
            slots[i].copy(kept[i]);
        }
        z = keptZ;
        return allCrossings();
    }

    public int count(int what) {
        switch (what) {
            case 0: return allCrossings();
            case 1: return allRational();
            case 2: return tape.length;
            case 3: return entries.size;
            case 4: return entries.total;
            case 5: return z;
            default: return error(BEYOND);
        }
    }

    public int told(int k) {
        if (k < BEYOND || k > BIG) {
            return error(BEYOND);
        }
        return errors[k];
    }

    // ---- what the calls share

    private int error(int kind) {
        errors[kind]++;
        return LOW - kind;
    }

    private long longError(int kind) {
        errors[kind]++;
        return LONG_LOW - kind;
    }

    private static boolean isSlot(int slot) {
        return slot >= 0 && slot < SLOTS;
    }

    private static boolean isSheet(int sheet) {
        return sheet >= 0 && sheet < SHEETS;
    }

    private static boolean isChoice(int choice) {
        return choice == 0 || choice == 1;
    }

    private static boolean isWhole(int number) {
        return number >= -MOST_WHOLE && number <= MOST_WHOLE;
    }

    private int settle(Tangle made, int into) {
        gauge.measure(made);
        slots[into].copy(made);
        return made.crossings;
    }

    /** Side 1 of a tangle is side 0 of the same one turned, whose fraction is -1 by it. */
    private static long nameOf(Tangle tangle, int side) {
        if (side == 0) {
            return Names.named(tangle.fractionTop, tangle.fractionBottom);
        }
        return Names.named(-tangle.fractionBottom, tangle.fractionTop);
    }

    private int allCrossings() {
        int all = 0;
        for (int i = 0; i < SLOTS; i++) {
            all += slots[i].crossings;
        }
        return all;
    }

    private int allRational() {
        int all = 0;
        for (int i = 0; i < SLOTS; i++) {
            if (slots[i].rational) {
                all++;
            }
        }
        return all;
    }

    /** A tree as a row of its parts, so that no walk over it needs recursion. */
    private static final class Tangle {
        final int[] parts;
        int size = 1;
        int leaves = 1;
        int crossings = 0;
        int depth = 1;
        int top = 0;
        int bottom = 1;
        boolean rational = true;
        boolean hasFraction = true;
        int fractionTop = 0;
        int fractionBottom = 1;

        Tangle(int room) {
            parts = new int[Math.max(room, 1)];
        }

        void clear() {
            size = 0;
            leaves = 0;
            crossings = 0;
        }

        void add(int part) {
            if (size >= parts.length) {
                return;
            }
            parts[size] = part;
            size++;
            if (part <= UPRIGHT) {
                leaves++;
                crossings += part == UPRIGHT ? 0 : Math.abs(part);
            }
        }

        void append(Tangle other) {
            for (int i = 0; i < other.size; i++) {
                add(other.parts[i]);
            }
        }

        void copy(Tangle other) {
            if (other.size > parts.length) {
                return;
            }
            System.arraycopy(other.parts, 0, parts, 0, other.size);
            size = other.size;
            leaves = other.leaves;
            crossings = other.crossings;
            depth = other.depth;
            top = other.top;
            bottom = other.bottom;
            rational = other.rational;
            hasFraction = other.hasFraction;
            fractionTop = other.fractionTop;
            fractionBottom = other.fractionBottom;
        }

        boolean hasRoom(int moreLeaves, int moreCrossings, int moreParts) {
            return leaves + moreLeaves <= MOST_LEAVES
                    && crossings + moreCrossings <= MOST_CROSSINGS
                    && size + moreParts <= MOST_PARTS;
        }

        boolean isWithinLimits() {
            return hasRoom(0, 0, 0);
        }

        /** Makes a move if there is room; what is worked out from the parts must be measured later. */
        boolean advance(int move) {
            boolean bare = move == TURN || move == MIRROR;
            if (bare ? !hasRoom(0, 0, 1) : !hasRoom(1, 1, 2)) {
                return false;
            }
            switch (move) {
                case TWIST: add(1); add(SUM); break;
                case UNTWIST: add(-1); add(SUM); break;
                case TURN: add(TURNED); break;
                case MIRROR: add(MIRRORED); break;
                case DROP: add(1); add(STACK); break;
                case LIFT: add(-1); add(STACK); break;
                default: return false;
            }
            return true;
        }
    }

    /** Works out a tangle's depth, pair and fraction, with rows that are used again. */
    private static final class Gauge {
        private final int[] depths = new int[MOST_LEAVES];
        private final int[] tops = new int[MOST_LEAVES];
        private final int[] bottoms = new int[MOST_LEAVES];
        private final boolean[] rationals = new boolean[MOST_LEAVES];
        private int height;

        void measure(Tangle tangle) {
            height = 0;
            for (int i = 0; i < tangle.size; i++) {
                int part = tangle.parts[i];
                if (part <= UPRIGHT) {
                    push(part);
                } else if (part == SUM || part == STACK) {
                    combine(part == SUM);
                } else {
                    alter(part == TURNED);
                }
            }
            tangle.depth = depths[0];
            tangle.top = tops[0];
            tangle.bottom = bottoms[0];
            tangle.rational = rationals[0];
            reduce(tangle);
        }

        private void push(int leaf) {
            if (height >= depths.length) {
                return;
            }
            depths[height] = 1;
            tops[height] = leaf == UPRIGHT ? 1 : leaf;
            bottoms[height] = leaf == UPRIGHT ? 0 : 1;
            rationals[height] = true;
            height++;
        }

        private void combine(boolean isSum) {
            if (height < 2) {
                return;
            }
            int x = height - 2;
            int y = height - 1;
            int a = tops[x];
            int b = bottoms[x];
            int c = tops[y];
            int d = bottoms[y];
            boolean simple = isSum ? isUnit(b) || isUnit(d) : isUnit(a) || isUnit(c);
            rationals[x] = rationals[x] && rationals[y] && simple;
            depths[x] = 1 + Math.max(depths[x], depths[y]);
            tops[x] = isSum ? a * d + c * b : a * c;
            bottoms[x] = isSum ? b * d : a * d + c * b;
            height--;
        }

        private void alter(boolean isTurn) {
            if (height < 1) {
                return;
            }
            int x = height - 1;
            int a = tops[x];
            depths[x]++;
            if (isTurn) {
                tops[x] = -bottoms[x];
                bottoms[x] = a;
            } else {
                tops[x] = -a;
            }
        }

        private static boolean isUnit(int number) {
            return number == 1 || number == -1;
        }

        private static void reduce(Tangle tangle) {
            int divisor = Fractions.divisorOf(tangle.top, tangle.bottom);
            tangle.hasFraction = divisor != 0;
            if (divisor == 0) {
                return;
            }
            boolean flip = tangle.bottom < 0 || (tangle.bottom == 0 && tangle.top < 0);
            int signed = flip ? -divisor : divisor;
            tangle.fractionTop = tangle.top / signed;
            tangle.fractionBottom = tangle.bottom / signed;
        }
    }

    /** The bytes that were fed, and what they say when they are read. */
    private static final class Tape {
        private static final int BLANK = ' ';

        private final int[] bytes = new int[MOST_BYTES];
        private final int[] pending = new int[MOST_BYTES];
        private final int[] found = new int[MOST_BYTES];
        final Tangle text = new Tangle(MOST_BYTES);
        int length = 0;
        int moveCount = 0;
        private int waiting = 0;
        private int open = 0;

        boolean hasRoom(int more) {
            return length + more <= MOST_BYTES;
        }

        void take(int code) {
            if (length < bytes.length) {
                bytes[length] = code;
                length++;
            }
        }

        int readMove(int i) {
            return i >= 0 && i < moveCount ? found[i] : 0;
        }

        /** Answers -1, or where the first fault is; the tangle that was read is kept in text. */
        int readText() {
            text.clear();
            waiting = 0;
            open = 0;
            boolean wantsPart = true;
            for (int i = 0; i < length; i++) {
                int code = bytes[i];
                if (wantsPart && isOpener(code)) {
                    if (open >= MOST_OPEN) {
                        return i;
                    }
                    open++;
                    postpone(code);
                } else if (wantsPart) {
                    boolean negative = code == '-';
                    if (negative) {
                        i++;
                    }
                    int fault = readLeaf(i, negative);
                    if (fault >= 0) {
                        return fault;
                    }
                    wantsPart = false;
                } else if (code == ')') {
                    if (!closes()) {
                        return i;
                    }
                } else if (code == '+' || code == '*') {
                    if (code == '+') {
                        endSum();
                    }
                    postpone(code);
                    wantsPart = true;
                } else {
                    return i;
                }
            }
            endSum();
            return wantsPart || waiting > 0 ? length : -1;
        }

        private static boolean isOpener(int code) {
            return code == '(' || code == 't' || code == 'm';
        }

        private int readLeaf(int i, boolean negative) {
            if (i >= length) {
                return length;
            }
            int code = bytes[i];
            if (code >= '0' && code <= '9') {
                text.add(negative ? '0' - code : code - '0');
            } else if (code == 'i' && !negative) {
                text.add(UPRIGHT);
            } else {
                return i;
            }
            endUnit();
            return -1;
        }

        private void postpone(int code) {
            if (waiting < pending.length) {
                pending[waiting] = code;
                waiting++;
            }
        }

        private boolean isWaiting(int code) {
            return waiting > 0 && pending[waiting - 1] == code;
        }

        /** A unit that ends also ends each t and m ahead of it, and is the right side of a stack. */
        private void endUnit() {
            for (int i = 0; i < MOST_OPEN && (isWaiting('t') || isWaiting('m')); i++) {
                text.add(isWaiting('t') ? TURNED : MIRRORED);
                waiting--;
                open--;
            }
            if (isWaiting('*')) {
                text.add(STACK);
                waiting--;
            }
        }

        private void endSum() {
            if (isWaiting('+')) {
                text.add(SUM);
                waiting--;
            }
        }

        private boolean closes() {
            endSum();
            if (!isWaiting('(')) {
                return false;
            }
            waiting--;
            open--;
            endUnit();
            return true;
        }

        /** Answers -1, or where the first word that is no move begins; the moves are kept in found. */
        int readMoves() {
            moveCount = 0;
            int begin = 0;
            for (int i = 0; i <= length; i++) {
                if (i < length && bytes[i] != BLANK) {
                    continue;
                }
                if (i > begin) {
                    int move = moveAt(begin, i);
                    if (move < 0) {
                        return begin;
                    }
                    found[moveCount] = move;
                    moveCount++;
                }
                begin = i + 1;
            }
            return -1;
        }

        private int moveAt(int begin, int end) {
            for (int move = 0; move < MOVES; move++) {
                if (says(begin, end, wordOf(move))) {
                    return move;
                }
            }
            return -1;
        }

        private boolean says(int begin, int end, String word) {
            if (end - begin != word.length() || end > length) {
                return false;
            }
            for (int i = 0; i < word.length(); i++) {
                if (bytes[begin + i] != word.charAt(i)) {
                    return false;
                }
            }
            return true;
        }

        private static String wordOf(int move) {
            switch (move) {
                case TWIST: return "twist";
                case UNTWIST: return "untwist";
                case TURN: return "turn";
                case MIRROR: return "mirror";
                case DROP: return "drop";
                default: return "lift";
            }
        }
    }

    /** Whole-number work on fractions whose bottom is above 0, or 1 / 0. */
    private static final class Fractions {
        private static final int MOST_ROUNDS = 1000000;

        static int divisorOf(int one, int other) {
            int a = Math.abs(one);
            int b = Math.abs(other);
            for (int i = 0; i < MOST_ROUNDS && b != 0; i++) {
                int rest = a % b;
                a = b;
                b = rest;
            }
            return a;
        }

        /**
         * How many moves the dance has (i -1), else its i-th move, or -1. Twists in a row are taken
         * together, and so are rounds of a turn and two twists: a dance may have very many.
         */
        static int danced(int p, int q, int i) {
            if (q == 0) {
                return i == -1 ? 1 : i == 0 ? TURN : -1;
            }
            int done = p < 0 ? (q - 1 - p) / q : 0;
            if (i >= 0 && i < done) {
                return TWIST;
            }
            int u = p + done * q;
            int v = q;
            for (int round = 0; round < MOST_ROUNDS && u > 0; round++) {
                int twists = (v + u - 1) / u;
                int gap = v - u;
                int times = twists == 2 && gap > 0 ? u / gap : 1;
                int moves = times * (twists + 1);
                if (i >= 0 && i < done + moves) {
                    return (i - done) % (twists + 1) == 0 ? TURN : TWIST;
                }
                done += moves;
                if (twists == 2) {
                    u -= times * gap;
                    v = u + gap;
                } else {
                    int before = u;
                    u = twists * u - v;
                    v = before;
                }
            }
            return i == -1 ? done : -1;
        }

        /** The first row of just so many moves, as digits behind a 1, or -1. */
        static int rowOf(Tangle start, Tangle goal, int steps) {
            return path(start.fractionTop, start.fractionBottom, goal.fractionTop, goal.fractionBottom,
                    Math.min(steps, MOST_STEPS), 1);
        }

        /** Moves that undo each other are left out: no least row has them. */
        private static int path(int p, int q, int goalTop, int goalBottom, int left, int code) {
            if (left <= 0) {
                return p == goalTop && q == goalBottom ? code : -1;
            }
            for (int move = TWIST; move <= TURN; move++) {
                if (code > 1 && undoes(code % 10, move)) {
                    continue;
                }
                int top = move == TURN ? turnedTop(p, q) : move == TWIST ? p + q : p - q;
                int bottom = move == TURN ? Math.abs(p) : q;
                int found = path(top, bottom, goalTop, goalBottom, left - 1, code * 10 + move);
                if (found > 0) {
                    return found;
                }
            }
            return -1;
        }

        private static int turnedTop(int p, int q) {
            if (p == 0) {
                return 1;
            }
            return p > 0 ? -q : q;
        }

        private static boolean undoes(int last, int move) {
            return last == TURN ? move == TURN : last + move == TWIST + UNTWIST;
        }
    }

    /**
     * The curves of a side of a tangle. Each crossing is a box with four points NW, NE, SW, SE (0 to
     * 3); so is each leaf without one. In a box a point leads to the one that its mask makes of it.
     */
    private static final class Diagram {
        private static final int NW = 0;
        private static final int NE = 1;
        private static final int SW = 2;
        private static final int SE = 3;
        private static final int BOXES = MOST_CROSSINGS + MOST_LEAVES;
        private static final int POINTS = 4 * BOXES;
        private static final int PASSES = 2 * MOST_CROSSINGS;

        private final int[] masks = new int[BOXES];
        private final int[] partners = new int[POINTS];
        private final boolean[] seen = new boolean[POINTS];
        private final int[] ends = new int[4 * MOST_LEAVES];
        private final int[] firsts = new int[MOST_LEAVES];
        private final boolean[] positive = new boolean[MOST_CROSSINGS];
        private final int[] passes = new int[PASSES];
        private final int[] starts = new int[PASSES + 1];
        private final int[] homes = new int[PASSES];
        private final boolean[] eastward = new boolean[PASSES];
        int crossings;
        int components;
        int circles;
        private int plain;
        private int height;
        private int walked;

        void draw(Tangle tangle, int side) {
            crossings = 0;
            plain = 0;
            height = 0;
            for (int i = 0; i < tangle.size; i++) {
                place(tangle.parts[i]);
            }
            if (side == 0) {
                tie(ends[NW], ends[NE]);
                tie(ends[SW], ends[SE]);
            } else {
                tie(ends[NW], ends[SW]);
                tie(ends[NE], ends[SE]);
            }
            walkAll();
        }

        private void place(int part) {
            if (part <= UPRIGHT) {
                placeLeaf(part);
            } else if (part == SUM) {
                placeBeside();
            } else if (part == STACK) {
                placeBelow();
            } else if (part == TURNED) {
                turnEnds();
            } else {
                flipCrossings();
            }
        }

        private void placeLeaf(int leaf) {
            if (height >= firsts.length || plain >= MOST_LEAVES) {
                return;
            }
            firsts[height] = crossings;
            if (leaf == 0 || leaf == UPRIGHT) {
                int box = MOST_CROSSINGS + plain;
                masks[box] = leaf == 0 ? NW ^ NE : NW ^ SW;
                setEnds(box, box);
                plain++;
            } else {
                int first = crossings;
                for (int i = 0; i < Math.abs(leaf) && crossings < MOST_CROSSINGS; i++) {
                    masks[crossings] = NW ^ SE;
                    positive[crossings] = leaf > 0;
                    if (i > 0) {
                        tie(4 * crossings - 4 + NE, 4 * crossings + NW);
                        tie(4 * crossings - 4 + SE, 4 * crossings + SW);
                    }
                    crossings++;
                }
                setEnds(first, crossings - 1);
            }
            height++;
        }

        private void setEnds(int west, int east) {
            int at = 4 * height;
            ends[at + NW] = 4 * west + NW;
            ends[at + SW] = 4 * west + SW;
            ends[at + NE] = 4 * east + NE;
            ends[at + SE] = 4 * east + SE;
        }

        private void tie(int one, int other) {
            partners[one] = other;
            partners[other] = one;
        }

        private void placeBeside() {
            if (height < 2) {
                return;
            }
            int x = 4 * (height - 2);
            int y = x + 4;
            tie(ends[x + NE], ends[y + NW]);
            tie(ends[x + SE], ends[y + SW]);
            ends[x + NE] = ends[y + NE];
            ends[x + SE] = ends[y + SE];
            height--;
        }

        private void placeBelow() {
            if (height < 2) {
                return;
            }
            int x = 4 * (height - 2);
            int y = x + 4;
            tie(ends[x + SW], ends[y + NW]);
            tie(ends[x + SE], ends[y + NE]);
            ends[x + SW] = ends[y + SW];
            ends[x + SE] = ends[y + SE];
            height--;
        }

        private void turnEnds() {
            if (height < 1) {
                return;
            }
            int x = 4 * (height - 1);
            int northWest = ends[x + NW];
            ends[x + NW] = ends[x + NE];
            ends[x + NE] = ends[x + SE];
            ends[x + SE] = ends[x + SW];
            ends[x + SW] = northWest;
        }

        private void flipCrossings() {
            if (height < 1) {
                return;
            }
            for (int c = firsts[height - 1]; c < crossings; c++) {
                positive[c] = !positive[c];
            }
        }

        /** Goes by crossing, over ahead of under, so that components are numbered as they begin. */
        private void walkAll() {
            for (int point = 0; point < POINTS; point++) {
                seen[point] = false;
            }
            components = 0;
            circles = 0;
            walked = 0;
            for (int c = 0; c < crossings; c++) {
                int over = 4 * c + (positive[c] ? NW : SW);
                int under = 4 * c + (positive[c] ? SW : NW);
                beginAt(over);
                beginAt(under);
            }
            starts[components] = walked;
            for (int point = 4 * MOST_CROSSINGS; point < 4 * (MOST_CROSSINGS + plain); point++) {
                if (!seen[point]) {
                    walk(point);
                    circles++;
                }
            }
        }

        private void beginAt(int point) {
            if (!seen[point]) {
                starts[components] = walked;
                walk(point);
                components++;
            }
        }

        private void walk(int begin) {
            int at = begin;
            for (int i = 0; i < POINTS; i++) {
                int exit = at ^ masks[at / 4];
                seen[at] = true;
                seen[exit] = true;
                if (at < 4 * MOST_CROSSINGS) {
                    notePass(at / 4, at % 4);
                }
                at = partners[exit];
                if (at == begin) {
                    break;
                }
            }
        }

        private void notePass(int box, int corner) {
            boolean falling = corner == NW || corner == SE;
            int pass = 2 * box + (falling == positive[box] ? 0 : 1);
            homes[pass] = components;
            eastward[pass] = corner == NW || corner == SW;
            if (walked < passes.length) {
                passes[walked] = pass;
                walked++;
            }
        }

        boolean hasComponent(int component) {
            return component >= 0 && component < components;
        }

        int overAt(int crossing) {
            return homes[2 * crossing];
        }

        int underAt(int crossing) {
            return homes[2 * crossing + 1];
        }

        int signAt(int crossing) {
            boolean together = eastward[2 * crossing] == eastward[2 * crossing + 1];
            return together == positive[crossing] ? 1 : -1;
        }

        int writhe() {
            int all = 0;
            for (int c = 0; c < crossings; c++) {
                all += signAt(c);
            }
            return all;
        }

        int linking(int one, int other) {
            int all = 0;
            for (int c = 0; c < crossings; c++) {
                int over = overAt(c);
                int under = underAt(c);
                if ((over == one && under == other) || (over == other && under == one)) {
                    all += signAt(c);
                }
            }
            return all / 2;
        }

        int passesOf(int component) {
            return starts[component + 1] - starts[component];
        }

        boolean isUnder(int component, int i) {
            return passes[starts[component] + i] % 2 == 1;
        }

        int crossingOf(int component, int i) {
            return passes[starts[component] + i] / 2;
        }

        /** A pass as a text of passes tells it: 1 more than its crossing, below 0 if it is under. */
        int passAt(int component, int i) {
            int number = crossingOf(component, i) + 1;
            return isUnder(component, i) ? -number : number;
        }

        /** A component that is never under is still one arc. */
        int arcsOf(int component) {
            int under = 0;
            for (int i = 0; i < passesOf(component); i++) {
                if (isUnder(component, i)) {
                    under++;
                }
            }
            return Math.max(under, 1);
        }

        int arcs() {
            int all = circles;
            for (int component = 0; component < components; component++) {
                all += arcsOf(component);
            }
            return all;
        }
    }

    /** Counts colourings: each crossing is an equation between arcs, modulo a prime. */
    private static final class Colouring {
        /** At most one arc for each pass under, and one for each component that is never under. */
        private static final int MOST_ARCS = 2 * MOST_CROSSINGS;

        private final int[][] grid = new int[MOST_CROSSINGS][MOST_ARCS];

        static boolean serves(int p) {
            return p == 2 || p == 3 || p == 5 || p == 7 || p == 11 || p == 13;
        }

        int freedom(Diagram diagram, int p) {
            if (!serves(p)) {
                return 0;
            }
            int columns = write(diagram, p);
            return diagram.circles + columns - rank(diagram.crossings, columns, p);
        }

        private int write(Diagram diagram, int p) {
            for (int c = 0; c < diagram.crossings; c++) {
                Arrays.fill(grid[c], 0);
            }
            int first = 0;
            for (int component = 0; component < diagram.components; component++) {
                int arcs = diagram.arcsOf(component);
                int arc = 0;
                for (int i = 0; i < diagram.passesOf(component); i++) {
                    int crossing = diagram.crossingOf(component, i);
                    if (diagram.isUnder(component, i)) {
                        weigh(crossing, first + arc, p - 1, p);
                        arc = arc + 1 < arcs ? arc + 1 : 0;
                        weigh(crossing, first + arc, p - 1, p);
                    } else {
                        weigh(crossing, first + arc, 2, p);
                    }
                }
                first += arcs;
            }
            return Math.min(first, MOST_ARCS);
        }

        private void weigh(int crossing, int arc, int weight, int p) {
            if (arc < MOST_ARCS && p > 0) {
                grid[crossing][arc] = (grid[crossing][arc] + weight) % p;
            }
        }

        private int rank(int rows, int columns, int p) {
            int rank = 0;
            for (int column = 0; column < columns && rank < rows; column++) {
                int pivot = pivotIn(column, rank, rows);
                if (pivot < 0) {
                    continue;
                }
                int[] chosen = grid[pivot];
                grid[pivot] = grid[rank];
                grid[rank] = chosen;
                int inverse = inverseOf(chosen[column], p);
                for (int i = rank + 1; i < rows; i++) {
                    int factor = grid[i][column] * inverse % p;
                    if (factor != 0) {
                        subtract(grid[i], chosen, p - factor, column, columns, p);
                    }
                }
                rank++;
            }
            return rank;
        }

        private int pivotIn(int column, int from, int rows) {
            for (int i = from; i < rows; i++) {
                if (grid[i][column] != 0) {
                    return i;
                }
            }
            return -1;
        }

        private static int inverseOf(int number, int p) {
            for (int i = 1; i < p; i++) {
                if (number * i % p == 1) {
                    return i;
                }
            }
            return 0;
        }

        private static void subtract(int[] line, int[] chosen, int factor, int from, int to, int p) {
            for (int j = from; j < to && j < line.length && p > 0; j++) {
                line[j] = (line[j] + factor * chosen[j]) % p;
            }
        }
    }

    /** A name (P, Q) is one long, P above Q, so that names need no objects and compare by P, then Q. */
    private static final class Names {
        private static final int MOST_ROUNDS = 1000000;

        static int topOf(long name) {
            return (int) (name >> 32);
        }

        static int bottomOf(long name) {
            return (int) name;
        }

        private static long pair(int p, int q) {
            return ((long) p << 32) | q;
        }

        /** Side 0 of p / q; the signs of both may be changed together. */
        static long named(int p, int q) {
            int top = Math.abs(p);
            if (top == 0) {
                return pair(0, 1);
            }
            if (top == 1) {
                return pair(1, 0);
            }
            int rest = Math.floorMod(p < 0 ? -q : q, top);
            return pair(top, Math.min(rest, inverseOf(rest, top)));
        }

        private static int inverseOf(int number, int p) {
            long a = p;
            long b = number;
            long before = 0;
            long factor = 1;
            for (int i = 0; i < MOST_ROUNDS && b != 0; i++) {
                long times = a / b;
                long rest = a - times * b;
                long next = before - times * factor;
                a = b;
                b = rest;
                before = factor;
                factor = next;
            }
            return (int) (before < 0 ? before + p : before);
        }

        static long glassOf(long name) {
            int p = topOf(name);
            return p > 1 ? named(p, p - bottomOf(name)) : name;
        }

        static int sizeOf(long name) {
            int a = topOf(name);
            int b = bottomOf(name);
            if (a <= 1) {
                return 0;
            }
            int all = 0;
            for (int i = 0; i < MOST_ROUNDS && b != 0; i++) {
                int rest = a % b;
                all += a / b;
                a = b;
                b = rest;
            }
            return all;
        }
    }

    /** Looks for the fewest changes that unlink a name of a small size. */
    private static final class Unlinking {
        /** One row of terms for each number of changes left: a change lessens the size. */
        private final int[][] rows = new int[MOST_SIZE + 1][MOST_SIZE];

        int numberOf(long name) {
            if (Names.topOf(name) <= 1) {
                return 0;
            }
            int number = 1;
            while (number < MOST_SIZE && firstGood(name, number) < 0) {
                number++;
            }
            return number;
        }

        /** The least place whose change leaves what so many changes less one unlink, or -1. */
        int placeOf(long name, int changes) {
            return firstGood(name, changes);
        }

        private int firstGood(long name, int changes) {
            if (changes < 1 || changes >= rows.length) {
                return -1;
            }
            int[] terms = rows[changes];
            int n = spread(name, terms);
            int size = Names.sizeOf(name);
            for (int place = 0; place < n; place++) {
                long next = changed(terms, n, place);
                boolean ends = Names.topOf(next) <= 1;
                if (Names.sizeOf(next) < size && (ends || firstGood(next, changes - 1) >= 0)) {
                    return place;
                }
            }
            return -1;
        }

        private static int spread(long name, int[] terms) {
            int a = Names.topOf(name);
            int b = Names.bottomOf(name);
            int n = 0;
            while (n < terms.length && b != 0) {
                terms[n] = a / b;
                int rest = a % b;
                a = b;
                b = rest;
                n++;
            }
            return n;
        }

        private static long changed(int[] terms, int n, int place) {
            int u = 1;
            int v = 0;
            for (int i = n - 1; i >= 0; i--) {
                int term = i == place ? terms[i] - 2 : terms[i];
                int next = term * u + v;
                v = u;
                u = next;
            }
            return Names.named(u, v);
        }
    }

    /** All names of each size, made when they are first asked for. */
    private static final class Listing {
        /** Of a size up to 12, P is at most 233. */
        private static final int SCALE = 1024;

        private final int[][] codes = new int[MOST_SIZE + 1][];

        int lengthOf(int size) {
            return codesOf(size).length;
        }

        int topAt(int size, int i) {
            int[] all = codesOf(size);
            return i >= 0 && i < all.length ? all[i] / SCALE : 0;
        }

        int bottomAt(int size, int i) {
            int[] all = codesOf(size);
            return i >= 0 && i < all.length ? all[i] % SCALE : 0;
        }

        private int[] codesOf(int size) {
            int place = Math.min(Math.max(size, LEAST_SIZE), MOST_SIZE);
            if (codes[place] == null) {
                codes[place] = made(place);
            }
            return codes[place];
        }

        /**
         * The last term is 2 at first; each bit then adds 1 to the foremost term or sets a term 1
         * ahead of it, so that all fractions above 1 of the size come, each once.
         */
        private static int[] made(int size) {
            int ways = 1 << (size - LEAST_SIZE);
            int[] found = new int[ways];
            int n = 0;
            for (int way = 0; way < ways; way++) {
                int u = 2;
                int v = 1;
                for (int bit = 0; bit < size - LEAST_SIZE; bit++) {
                    int next = u + v;
                    v = (way >> bit & 1) == 0 ? v : u;
                    u = next;
                }
                if (Names.bottomOf(Names.named(u, v)) == v) {
                    found[n] = u * SCALE + v;
                    n++;
                }
            }
            sort(found, n);
            return Arrays.copyOf(found, n);
        }

        private static void sort(int[] numbers, int n) {
            for (int gap = n / 2; gap > 0; gap /= 2) {
                for (int i = gap; i < n && i < numbers.length; i++) {
                    int number = numbers[i];
                    int j = i;
                    while (j >= gap && numbers[j - gap] > number) {
                        numbers[j] = numbers[j - gap];
                        j -= gap;
                    }
                    numbers[j] = number;
                }
            }
        }
    }

    /** The names that were entered, in the order in which they came first. */
    private static final class Book {
        private final long[] names = new long[MOST_NAMES];
        private final int[] times = new int[MOST_NAMES];
        int size = 0;
        int total = 0;

        boolean has(int i) {
            return i >= 0 && i < size;
        }

        /** How often the name was entered then; 0 if there is no room for it. */
        int inscribe(long name) {
            int place = placeOf(name);
            if (place >= names.length) {
                return 0;
            }
            if (place == size) {
                names[place] = name;
                times[place] = 0;
                size++;
            }
            times[place]++;
            total++;
            return times[place];
        }

        private int placeOf(long name) {
            int place = 0;
            while (place < size && names[place] != name) {
                place++;
            }
            return place;
        }

        int timesOf(int p, int q) {
            for (int i = 0; i < size; i++) {
                if (Names.topOf(names[i]) == p && Names.bottomOf(names[i]) == q) {
                    return times[i];
                }
            }
            return 0;
        }

        int tell(int i, int what) {
            if (!has(i)) {
                return 0;
            }
            switch (what) {
                case 0: return Names.topOf(names[i]);
                case 1: return Names.bottomOf(names[i]);
                default: return times[i];
            }
        }

        int atRank(int rank) {
            for (int i = 0; i < size; i++) {
                int ahead = 0;
                for (int j = 0; j < size; j++) {
                    if (isAhead(j, i)) {
                        ahead++;
                    }
                }
                if (ahead == rank) {
                    return i;
                }
            }
            return -1;
        }

        private boolean isAhead(int one, int other) {
            if (times[one] != times[other]) {
                return times[one] > times[other];
            }
            return names[one] < names[other];
        }
    }

    /** A row of numbers of so many bits; 0 bits: it is missing. */
    private static final class Sheet {
        private static final long MOST_TOP = 1000000000000000000L;

        private final long[] numbers = new long[MOST_NUMBERS];
        int bits = 0;
        int length = 0;
        long top = 0;
        long bottom = 1;

        boolean isMissing() {
            return bits == 0;
        }

        boolean has(int i) {
            return i >= 0 && i < length;
        }

        boolean hasRun(int i, int n) {
            return n >= 0 && i >= 0 && n <= length && i <= length - n;
        }

        void reset(int newBits, int n) {
            bits = newBits;
            length = Math.min(Math.max(n, 0), numbers.length);
            Arrays.fill(numbers, 0L);
        }

        void store(int i, long v) {
            if (has(i)) {
                int unused = 64 - bits;
                numbers[i] = v << unused >> unused;
            }
        }

        long at(int i) {
            return has(i) ? numbers[i] : 0;
        }

        void bring(Sheet source, int i, int j, int n) {
            if (source.hasRun(i, n) && hasRun(j, n)) {
                System.arraycopy(source.numbers, i, numbers, j, n);
            }
        }

        /** Becomes the row of p / q (q above 0, or 1 / 0); false if it has more than may stand here. */
        boolean expand(int p, int q, int how) {
            reset(64, 0);
            boolean negative = how == SAME && p < 0;
            long u = negative ? -(long) p : p;
            long v = q;
            while (length < numbers.length && v != 0) {
                long term = termOf(u, v, how);
                long rest = how == CEILING ? term * v - u : u - term * v;
                numbers[length] = term;
                length++;
                u = rest < 0 ? -v : v;
                v = Math.abs(rest);
            }
            if (how == SAME) {
                makeOdd();
            }
            if (negative) {
                negate();
            }
            return v == 0;
        }

        private static long termOf(long u, long v, int how) {
            if (v == 0) {
                return 0;
            }
            switch (how) {
                case CEILING: return -Math.floorDiv(-u, v);
                case EVEN: return 2 * Math.floorDiv(u + v, 2 * v);
                default: return Math.floorDiv(u, v);
            }
        }

        /** An even row's last term is above 1, so 1 of it can stand alone. */
        private void makeOdd() {
            if (length > 0 && length % 2 == 0 && length < numbers.length) {
                numbers[length - 1]--;
                numbers[length] = 1;
                length++;
            }
        }

        private void negate() {
            for (int i = 0; i < length; i++) {
                numbers[i] = -numbers[i];
            }
        }

        /** Works out top and bottom from the last number on; false if one grows too big. */
        boolean workOut(int sign) {
            if (length == 0) {
                return false;
            }
            long u = numbers[length - 1];
            long v = 1;
            if (isTooBig(u, MOST_TOP)) {
                return false;
            }
            for (int i = length - 2; i >= 0; i--) {
                long term = numbers[i];
                // A product beyond twice the limit stays beyond the limit, whatever is added.
                if (u != 0 && isTooBig(term, 2 * MOST_TOP / Math.abs(u))) {
                    return false;
                }
                long next = term * u + sign * v;
                if (isTooBig(next, MOST_TOP)) {
                    return false;
                }
                v = u;
                u = next;
            }
            top = u;
            bottom = v;
            return true;
        }

        private static boolean isTooBig(long number, long limit) {
            return number > limit || number < -limit;
        }

        int firstUnlike(Sheet other) {
            int both = Math.min(length, other.length);
            for (int i = 0; i < both; i++) {
                if (numbers[i] != other.numbers[i]) {
                    return i;
                }
            }
            return length == other.length ? -1 : both;
        }
    }
}
