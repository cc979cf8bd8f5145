import java.util.HashSet;
import java.util.Set;

/**
 * Knots and links with two bridges as the known tables have them (Conway's and Rolfsen's, written down
 * from memory): these answers come from outside the document, so a misreading of it can't stand in both.
 */
public final class TablesTest {
    private static final Checks CHECKS = new Checks();

    /** Name, Conway's row, determinant, genus, unknotting number, 1 if it is its own image in a glass. */
    private static final String[] KNOTS = {
        "3_1 | 3 | 3 1 1 0", "4_1 | 2 2 | 5 1 1 1", "5_1 | 5 | 5 2 2 0", "5_2 | 3 2 | 7 1 1 0",
        "6_1 | 4 2 | 9 1 1 0", "6_2 | 3 1 2 | 11 2 1 0", "6_3 | 2 1 1 2 | 13 2 1 1",
        "7_1 | 7 | 7 3 3 0", "7_2 | 5 2 | 11 1 1 0", "7_3 | 4 3 | 13 2 2 0", "7_4 | 3 1 3 | 15 1 2 0",
        "7_5 | 3 2 2 | 17 2 2 0", "7_6 | 2 2 1 2 | 19 2 1 0", "7_7 | 2 1 1 1 2 | 21 2 1 0",
        "8_1 | 6 2 | 13 1 1 0", "8_2 | 5 1 2 | 17 3 2 0", "8_3 | 4 4 | 17 1 2 1", "8_4 | 4 1 3 | 19 2 2 0",
        "8_6 | 3 3 2 | 23 2 2 0", "8_7 | 4 1 1 2 | 23 3 1 0", "8_8 | 2 3 1 2 | 25 2 2 0",
        "8_9 | 3 1 1 3 | 25 3 1 1", "8_11 | 3 2 1 2 | 27 2 1 0", "8_12 | 2 2 2 2 | 29 2 2 1",
        "8_13 | 3 1 1 1 2 | 29 2 1 0", "8_14 | 2 2 1 1 2 | 31 2 1 0",
        "9_1 | 9 | 9 4 4 0", "9_2 | 7 2 | 15 1 1 0", "9_3 | 6 3 | 19 3 3 0", "9_4 | 5 4 | 21 2 2 0",
        "9_5 | 5 1 3 | 23 1 2 0", "9_6 | 5 2 2 | 27 3 3 0", "9_7 | 3 4 2 | 29 2 2 0",
        "9_8 | 2 4 1 2 | 31 2 2 0", "9_9 | 4 2 3 | 31 3 3 0", "9_10 | 3 3 3 | 33 2 3 0",
        "9_11 | 4 1 2 2 | 33 3 2 0", "9_12 | 4 2 1 2 | 35 2 1 0", "9_13 | 3 2 1 3 | 37 2 3 0",
        "9_14 | 4 1 1 1 2 | 37 2 1 0", "9_15 | 2 3 2 2 | 39 2 2 0", "9_17 | 2 1 3 1 2 | 39 3 2 0",
        "9_18 | 3 2 2 2 | 41 2 2 0", "9_19 | 2 3 1 1 2 | 41 2 1 0", "9_20 | 3 1 2 1 2 | 41 3 2 0",
        "9_21 | 3 1 1 2 2 | 43 2 1 0", "9_23 | 2 2 1 2 2 | 45 2 2 0", "9_26 | 3 1 1 1 1 2 | 47 3 1 0",
        "9_27 | 2 1 2 1 1 2 | 49 3 1 0", "9_31 | 2 1 1 1 1 1 2 | 55 3 2 0",
    };

    /** Name, Conway's row, determinant, how often its two curves are linked (without its sign). */
    private static final String[] LINKS = {
        "2^2_1 | 2 | 2 1", "4^2_1 | 4 | 4 2", "5^2_1 | 2 1 2 | 8 0", "6^2_1 | 6 | 6 3",
        "6^2_2 | 3 3 | 10 3", "6^2_3 | 2 2 2 | 12 2", "7^2_1 | 4 1 2 | 14 1", "7^2_2 | 3 1 1 2 | 18 1",
        "7^2_3 | 2 3 2 | 16 0",
    };

    /** How many knots with two bridges have 2, 3, .. 12 crossings, images in a glass counted once. */
    private static final int[] KNOT_COUNTS = {0, 1, 1, 2, 3, 7, 12, 24, 45, 91, 176};

    private TablesTest() {
    }

    private static int[] numbers(String text) {
        String[] words = text.trim().split(" ");
        int[] all = new int[words.length];
        for (int i = 0; i < words.length; i++) {
            all[i] = Integer.parseInt(words[i]);
        }
        return all;
    }

    /** Conway's row in slot 0: each further term is as many twists of 1 by what is there. */
    private static StrandTangles made(int[] row) {
        StrandTangles x = new StrandTangles();
        for (int i = 0; i < row.length; i++) {
            if (i > 0) {
                x.move(0, 2);
                x.move(0, 3);
            }
            for (int twist = 0; twist < row[i]; twist++) {
                x.move(0, 0);
            }
        }
        return x;
    }

    private static int sum(int[] row) {
        int all = 0;
        for (int term : row) {
            all += term;
        }
        return all;
    }

    private static void checkKnot(String line) {
        String[] fields = line.split("\\|");
        String knot = fields[0].trim();
        int[] row = numbers(fields[1]);
        int[] due = numbers(fields[2]);
        StrandTangles x = made(row);
        CHECKS.due(knot + ": curves", x.link(0, 0, 0), 1);
        CHECKS.due(knot + ": determinant", x.name(0, 0, 0), due[0]);
        CHECKS.due(knot + ": determinant of the pair", x.link(0, 0, 4), due[0]);
        CHECKS.due(knot + ": crossings drawn", x.slot(0, 1), sum(row));
        CHECKS.due(knot + ": crossings", x.name(0, 0, 2), Integer.parseInt(knot.substring(0, 1)));
        CHECKS.due(knot + ": genus", x.name(0, 0, 3), due[1]);
        CHECKS.due(knot + ": unknotting", x.name(0, 0, 5), due[2]);
        CHECKS.due(knot + ": image in a glass", x.name(0, 0, 4), due[3]);
        for (int p : new int[] {3, 5, 7, 11, 13}) {
            CHECKS.due(knot + ": colours by " + p, x.colours(0, 0, p), due[0] % p == 0 ? 2 : 1);
        }
        x.image();
        x.move(0, 3);
        int glass = x.name(0, 0, 1);
        x.restore();
        CHECKS.due(knot + ": mirrored", x.name(0, 0, 1) == glass ? 1 : 0, due[3]);
    }

    private static void checkLink(String line) {
        String[] fields = line.split("\\|");
        String link = fields[0].trim();
        int[] due = numbers(fields[2]);
        StrandTangles x = made(numbers(fields[1]));
        CHECKS.due(link + ": curves", x.link(0, 0, 0), 2);
        CHECKS.due(link + ": determinant", x.name(0, 0, 0), due[0]);
        CHECKS.due(link + ": crossings", x.name(0, 0, 2), Integer.parseInt(link.substring(0, 1)));
        CHECKS.due(link + ": linked", Math.abs(x.linked(0, 0, 0, 1)), due[1]);
    }

    private static int inverse(int q, int p) {
        int i = 1;
        while (q * i % p != 1) {
            i++;
        }
        return i;
    }

    /** Of Q, 1 by Q, and both of the image in a glass, the least. */
    private static int least(int p, int q) {
        int other = p - q;
        return Math.min(Math.min(q, inverse(q, p)), Math.min(other, inverse(other, p)));
    }

    private static void checkCounts() {
        StrandTangles x = new StrandTangles();
        for (int size = 2; size <= 12; size++) {
            Set<String> knots = new HashSet<>();
            Set<String> all = new HashSet<>();
            StrandTangles lists = new StrandTangles();
            int n = x.listed(size, 0, -1);
            for (int i = 0; i < n; i++) {
                if (i % 200 == 0) {
                    lists = new StrandTangles();
                }
                int p = lists.listed(size, i, 0);
                String name = p + " / " + least(p, lists.listed(size, i, 1));
                all.add(name);
                if (p % 2 == 1) {
                    knots.add(name);
                }
            }
            CHECKS.due("knots of size " + size, knots.size(), KNOT_COUNTS[size - 2]);
            // Ernst and Sumners: knots and links together, images in a glass counted once.
            int m = size - 2;
            int both = m < 2 ? 1 : (1 << (m - 2)) + (1 << (m / 2 - 1));
            CHECKS.due("knots and links of size " + size, all.size(), both);
        }
    }

    /**
     * Kanenobu and Murakami: one change unknots a knot with two bridges just if P = 2 m n + 1 or
     * 2 m n - 1, m and n without a common divisor, and Q, 1 by Q or the image of one is 2 n n by P.
     */
    private static boolean isUnknottedByOne(int p, int q) {
        int due = least(p, q);
        for (int product = (p - 1) / 2; product <= (p + 1) / 2; product++) {
            for (int n = 1; n <= product; n++) {
                if (product % n == 0 && gcd(n, product / n) == 1 && least(p, 2 * n * n % p) == due) {
                    return true;
                }
            }
        }
        return false;
    }

    private static int gcd(int a, int b) {
        return b == 0 ? a : gcd(b, a % b);
    }

    private static int[] rowOf(int p, int q) {
        int[] all = new int[16];
        int n = 0;
        for (int a = p, b = q; b != 0; n++) {
            all[n] = a / b;
            int rest = a % b;
            a = b;
            b = rest;
        }
        int[] row = new int[n];
        for (int i = 0; i < n; i++) {
            row[i] = all[n - 1 - i];
        }
        return row;
    }

    private static void checkUnknottedByOne() {
        for (int size = 3; size <= 12; size++) {
            StrandTangles lists = new StrandTangles();
            int n = lists.listed(size, 0, -1);
            for (int i = 0; i < n; i++) {
                if (i % 200 == 0) {
                    lists = new StrandTangles();
                }
                int p = lists.listed(size, i, 0);
                int q = lists.listed(size, i, 1);
                if (p % 2 == 1) {
                    StrandTangles x = made(rowOf(p, q));
                    CHECKS.due("P made of " + p + " / " + q, x.name(0, 0, 0), p);
                    CHECKS.due("one change unknots " + p + " / " + q,
                            x.name(0, 0, 5) == 1 ? 1 : 0, isUnknottedByOne(p, q) ? 1 : 0);
                }
            }
        }
    }

    public static void main(String[] args) {
        for (String knot : KNOTS) {
            checkKnot(knot);
        }
        for (String link : LINKS) {
            checkLink(link);
        }
        checkCounts();
        checkUnknottedByOne();
        CHECKS.end();
    }
}
