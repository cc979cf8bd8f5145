import java.util.Random;

/**
 * Laws of knots that the document doesn't state, but that must hold between its answers if these are
 * what it says: each is asked of drawn trees.
 */
public final class LawsTest {
    private static final Checks CHECKS = new Checks();
    private static final int TREES = 3000;
    private static final int[] ODD_PRIMES = {3, 5, 7, 11, 13};

    private LawsTest() {
    }

    /** A drawn text with at most so many units; those of one leaf are short enough for the tape. */
    private static String draw(Random random, int units, int open) {
        if (units <= 1 || open >= 5) {
            int k = random.nextInt(9) - 4;
            return random.nextInt(12) == 0 ? "i" : Integer.toString(k);
        }
        int kind = random.nextInt(10);
        if (kind == 0) {
            return "m(" + draw(random, units, open + 2) + ")";
        }
        if (kind <= 3) {
            return "t(" + draw(random, units, open + 2) + ")";
        }
        int left = 1 + random.nextInt(units - 1);
        String sign = kind <= 7 ? "+" : "*";
        return "(" + draw(random, left, open + 1) + sign + draw(random, units - left, open + 1) + ")";
    }

    private static int hold(StrandTangles x, int slot, String text) {
        for (int i = 0; i < text.length(); i++) {
            x.feed(text.charAt(i), 1);
        }
        return x.tangle(slot);
    }

    private static int curves(StrandTangles x, int slot, int side) {
        return x.link(slot, side, 0) + x.link(slot, side, 1);
    }

    private static void coloursFollowThePair(String text, StrandTangles x, int side) {
        String what = text + " side " + side + ": ";
        int determinant = x.link(0, side, 4);
        CHECKS.due(what + "colours by 2 are as many as curves", x.colours(0, side, 2), curves(x, 0, side));
        CHECKS.isTrue(what + "even just if there are several curves",
                (determinant % 2 == 0) == (curves(x, 0, side) > 1));
        for (int p : ODD_PRIMES) {
            CHECKS.isTrue(what + "more colours by " + p + " just if it divides the pair",
                    (x.colours(0, side, p) > 1) == (determinant % p == 0));
        }
    }

    private static void signsMakeTheWrithe(String text, StrandTangles x, int side) {
        String what = text + " side " + side + ": ";
        int components = x.link(0, side, 0);
        int all = 0;
        for (int c = 0; c < x.slot(0, 1); c++) {
            if (x.crossing(0, side, c, 0) == x.crossing(0, side, c, 1)) {
                all += x.crossing(0, side, c, 2);
            }
        }
        for (int one = 0; one < components; one++) {
            for (int other = 0; other < one; other++) {
                CHECKS.due(what + "linked either way", x.linked(0, side, one, other), x.linked(0, side, other, one));
                all += 2 * x.linked(0, side, one, other);
            }
        }
        CHECKS.due(what + "writhe", x.link(0, side, 3), all);
    }

    private static void rowsHoldEachPassOnce(String text, StrandTangles x, int side) {
        String what = text + " side " + side + ": ";
        int crossings = x.slot(0, 1);
        int[] over = new int[crossings];
        int[] under = new int[crossings];
        int arcs = x.link(0, side, 1);
        for (int component = 0; component < x.link(0, side, 0); component++) {
            int n = x.gauss(0, 0, side, component);
            int unders = 0;
            for (int i = 0; i < n; i++) {
                int pass = (int) x.of(0, i);
                int crossing = Math.abs(pass) - 1;
                if (pass > 0) {
                    over[crossing]++;
                } else {
                    under[crossing]++;
                    unders++;
                }
                CHECKS.due(what + "home of " + pass, x.crossing(0, side, crossing, pass > 0 ? 0 : 1), component);
            }
            arcs += Math.max(unders, 1);
        }
        CHECKS.due(what + "arcs", x.link(0, side, 2), arcs);
        for (int c = 0; c < crossings; c++) {
            CHECKS.isTrue(what + "both passes of " + c, over[c] == 1 && under[c] == 1);
        }
    }

    private static void mirrorTurnsSigns(String text, StrandTangles x, int side) {
        String what = text + " side " + side + ", mirrored: ";
        int mirrored = hold(x, 1, "m(" + text + ")");
        if (mirrored < 0) {
            return;
        }
        CHECKS.due(what + "curves", curves(x, 1, side), curves(x, 0, side));
        CHECKS.due(what + "pair", x.link(1, side, 4), x.link(0, side, 4));
        for (int p : ODD_PRIMES) {
            CHECKS.due(what + "colours", x.colours(1, side, p), x.colours(0, side, p));
        }
        if (curves(x, 0, side) == 1) {
            CHECKS.due(what + "writhe", x.link(1, side, 3), -x.link(0, side, 3));
        }
        if (x.slot(0, 6) == 1) {
            CHECKS.isTrue(what + "name in a glass", (x.alike(0, side, 1, side) & 2) == 2);
        }
    }

    /** The ends of t x that side 0 joins are those that side 1 joins of x. */
    private static void turnSwapsSides(String text, StrandTangles x) {
        if (hold(x, 1, "t(" + text + ")") < 0) {
            return;
        }
        for (int side = 0; side <= 1; side++) {
            String what = text + " turned, side " + side + ": ";
            for (int asked = 0; asked <= 4; asked++) {
                CHECKS.due(what + "link " + asked, x.link(1, side, asked), x.link(0, 1 - side, asked));
            }
            for (int component = 0; component < x.link(1, side, 0); component++) {
                int n = x.gauss(1, 1, side, component);
                CHECKS.due(what + "gauss", n, x.gauss(2, 0, 1 - side, component));
                for (int i = 0; i < n; i++) {
                    CHECKS.due(what + "pass " + i, x.of(1, i), x.of(2, i));
                }
            }
            if (x.slot(0, 6) == 1) {
                CHECKS.due(what + "name", x.alike(1, side, 0, 1 - side) & 1, 1);
            }
        }
    }

    /** Side 1 of a sum strings both on one line; so does side 0 of a stack. */
    private static void sumsAreStrung(String text, String more, StrandTangles x) {
        if (hold(x, 1, more) < 0) {
            return;
        }
        for (int how = 0; how <= 1; how++) {
            if (x.join(0, 1, how, 2) < 0) {
                continue;
            }
            int side = 1 - how;
            String what = text + " and " + more + " joined by " + how + ": ";
            CHECKS.due(what + "curves", curves(x, 2, side), curves(x, 0, side) + curves(x, 1, side) - 1);
            CHECKS.due(what + "pair", x.link(2, side, 4), x.link(0, side, 4) * x.link(1, side, 4));
            for (int p : ODD_PRIMES) {
                CHECKS.due(what + "colours by " + p, x.colours(2, side, p),
                        x.colours(0, side, p) + x.colours(1, side, p) - 1);
            }
            if (curves(x, 2, side) == 1) {
                CHECKS.due(what + "writhe", x.link(2, side, 3), x.link(0, side, 3) + x.link(1, side, 3));
            }
        }
    }

    /** Moves 0, 1, 2 of a fraction, by plain arithmetic. */
    private static long[] moved(long p, long q, int move) {
        if (move != 2) {
            return new long[] {move == 0 ? p + q : p - q, q};
        }
        if (p == 0) {
            return new long[] {1, 0};
        }
        return p > 0 ? new long[] {-q, p} : new long[] {q, -p};
    }

    private static void danceLeadsToNought(String text, StrandTangles x) {
        int steps = x.dance(0, -1);
        if (steps < 0 || steps > 400) {
            return;
        }
        long[] at = {x.slot(0, 7), x.slot(0, 8)};
        for (int i = 0; i < steps; i++) {
            CHECKS.isTrue(text + ": not yet nought ahead of move " + i, at[0] != 0);
            at = moved(at[0], at[1], x.dance(0, i));
        }
        CHECKS.due(text + ": danced to nought", at[0], 0);
    }

    private static void leastLeadsToTheOther(String text, StrandTangles x, Random random) {
        if (x.slot(0, 7) < -1000000000) {
            return;
        }
        hold(x, 1, text);
        int walked = 0;
        for (int i = random.nextInt(9); i > 0; i--) {
            if (x.move(1, random.nextInt(3)) >= 0) {
                walked++;
            }
        }
        int steps = x.least(0, 1, walked, 0);
        CHECKS.isTrue(text + ": no more than were walked", steps >= 0 && steps <= walked);
        CHECKS.due(text + ": as many back", x.least(1, 0, walked, 0), steps);
        String row = Integer.toString(x.least(0, 1, walked, 1));
        CHECKS.due(text + ": digits", row.length(), steps + 1);
        long[] at = {x.slot(0, 7), x.slot(0, 8)};
        for (int i = 1; i < row.length(); i++) {
            at = moved(at[0], at[1], row.charAt(i) - '0');
        }
        CHECKS.isTrue(text + ": least row leads there", at[0] == x.slot(1, 7) && at[1] == x.slot(1, 8));
    }

    /** Each row of a fraction, worked out again, is that fraction, up to the signs of both. */
    private static void rowsWorkOut(String text, StrandTangles x) {
        int p = x.slot(0, 7);
        int q = x.slot(0, 8);
        if (p < -1000000000 || q == 0) {
            return;
        }
        for (int how = 0; how <= 3; how++) {
            if (x.terms(0, p, q, how) < 0) {
                continue;
            }
            int sign = how == 1 ? 1 : 0;
            long top = x.value(0, sign, 0);
            long bottom = x.value(0, sign, 1);
            CHECKS.isTrue(text + ": row " + how, top * q == bottom * p && Math.abs(bottom) == q);
        }
        CHECKS.due(text + ": terms judged", x.terms(0, p, q, 3) == x.term(0, -1) ? x.judge(0, 0) : -2, -1);
    }

    private static void sidesOf(String text) {
        for (int side = 0; side <= 1; side++) {
            StrandTangles x = new StrandTangles();
            hold(x, 0, text);
            coloursFollowThePair(text, x, side);
            signsMakeTheWrithe(text, x, side);
            StrandTangles y = new StrandTangles();
            hold(y, 0, text);
            rowsHoldEachPassOnce(text, y, side);
            mirrorTurnsSigns(text, y, side);
        }
    }

    private static StrandTangles holding(String text) {
        StrandTangles x = new StrandTangles();
        hold(x, 0, text);
        return x;
    }

    public static void main(String[] args) {
        Random random = new Random(11);
        for (int i = 0; i < TREES; i++) {
            String text = draw(random, 1 + random.nextInt(9), 0);
            String more = draw(random, 1 + random.nextInt(4), 0);
            if (text.length() > 90 || holding(text).count(0) == 0) {
                continue;
            }
            sidesOf(text);
            turnSwapsSides(text, holding(text));
            sumsAreStrung(text, more, holding(text));
            danceLeadsToNought(text, holding(text));
            leastLeadsToTheOther(text, holding(text), random);
            rowsWorkOut(text, holding(text));
        }
        CHECKS.end();
    }
}
