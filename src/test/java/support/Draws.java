import java.nio.charset.StandardCharsets;
import java.util.ArrayList;
import java.util.List;
import java.util.Random;

/** Rows of calls, drawn with a fixed seed: mostly right arguments, some at the edges, some wrong. */
final class Draws {
    /** One call: its name and its arguments. */
    static final class Call {
        final String name;
        final long[] args;

        Call(String name, long... args) {
            this.name = name;
            this.args = args;
        }

        @Override
        public String toString() {
            StringBuilder s = new StringBuilder(name).append('(');
            for (int i = 0; i < args.length; i++) {
                s.append(i == 0 ? "" : ", ").append(args[i]);
            }
            return s.append(')').toString();
        }
    }

    private static final String[] WORDS = {"twist", "untwist", "turn", "mirror", "drop", "lift"};
    private static final int[] ODD = {Integer.MIN_VALUE, -1000000000, -999999999, -2, -1, 0, 1, 2, 3, 4, 5, 6, 7, 8,
        9, 10, 11, 13, 20, 21, 47, 48, 49, 100, 999999999, 1000000000, Integer.MAX_VALUE};

    private final Random random;

    Draws(long seed) {
        random = new Random(seed);
    }

    private int upTo(int low, int high) {
        return low + random.nextInt(high - low + 1);
    }

    /** Mostly low to high; sometimes any other number. */
    private int near(int low, int high) {
        int luck = random.nextInt(60);
        if (luck == 0) {
            return ODD[random.nextInt(ODD.length)];
        }
        return luck < 3 ? upTo(low - 1, high + 1) : upTo(low, high);
    }

    private int whole() {
        int digits = upTo(1, 9);
        int most = (int) Math.pow(10, digits) - 1;
        return random.nextInt(50) == 0 ? ODD[random.nextInt(ODD.length)] : upTo(-most, most);
    }

    private long any() {
        int bits = upTo(1, 64);
        return random.nextLong() >> (64 - bits);
    }

    private String unit(int open) {
        int luck = random.nextInt(10);
        if (open > 0 && luck < 4) {
            return luck < 2 ? "(" + text(open - 1) + ")" : (luck == 2 ? "t" : "m") + unit(open - 1);
        }
        return luck == 9 ? "i" : (luck > 6 ? "-" : "") + upTo(0, random.nextInt(4) == 0 ? 9 : 3);
    }

    private String text(int open) {
        StringBuilder s = new StringBuilder(unit(open));
        for (int i = random.nextInt(3); i > 0; i--) {
            s.append(random.nextBoolean() ? '+' : '*').append(unit(open));
        }
        return s.toString();
    }

    private String moves() {
        StringBuilder s = new StringBuilder(random.nextInt(8) == 0 ? " " : "");
        for (int i = random.nextInt(10); i > 0; i--) {
            s.append(WORDS[random.nextInt(6)]).append(random.nextInt(20) == 0 ? "  " : " ");
        }
        return random.nextBoolean() ? s.toString().trim() : s.toString();
    }

    private String spoilt(String s) {
        if (s.isEmpty() || random.nextInt(4) != 0) {
            return s;
        }
        String signs = "0123456789-+*()tmi i";
        char sign = random.nextInt(9) == 0 ? (char) random.nextInt(256) : signs.charAt(random.nextInt(signs.length()));
        int at = random.nextInt(s.length());
        switch (random.nextInt(3)) {
            case 0: return s.substring(0, at);
            case 1: return s.substring(0, at) + sign + s.substring(at + 1);
            default: return s.substring(0, at) + sign + s.substring(at);
        }
    }

    static void feed(List<Call> calls, String s) {
        byte[] bytes = s.getBytes(StandardCharsets.ISO_8859_1);
        for (int i = 0; i < bytes.length; i += 8) {
            long word = 0;
            int n = Math.min(8, bytes.length - i);
            for (int j = 0; j < n; j++) {
                word |= (bytes[i + j] & 255L) << (8 * j);
            }
            calls.add(new Call("feed", word, n));
        }
    }

    List<Call> run(int length) {
        List<Call> calls = new ArrayList<>();
        while (calls.size() < length) {
            add(calls);
        }
        return new ArrayList<>(calls.subList(0, length));
    }

    private void add(List<Call> calls) {
        int luck = random.nextInt(100);
        if (luck < 28) {
            change(calls);
        } else if (luck < 40) {
            fractions(calls);
        } else if (luck < 58) {
            links(calls);
        } else if (luck < 74) {
            names(calls);
        } else if (luck < 92) {
            sheets(calls);
        } else {
            others(calls);
        }
    }

    private void change(List<Call> calls) {
        switch (random.nextInt(12)) {
            case 0: case 1: case 2: calls.add(new Call("leaf", near(0, 5), near(-5, 10))); break;
            case 3: case 4: case 5: calls.add(new Call("join", near(0, 5), near(0, 5), near(0, 1), near(0, 5))); break;
            case 6: case 7: calls.add(new Call("move", near(0, 5), near(0, 5))); break;
            case 8: case 9:
                feed(calls, spoilt(random.nextInt(20) == 0 ? text(9) : text(upTo(0, 4))));
                calls.add(new Call("tangle", near(0, 5)));
                break;
            case 10:
                feed(calls, spoilt(moves()));
                calls.add(new Call("moves", near(0, 5)));
                break;
            default: calls.add(new Call("loose", near(0, 5), near(1, 20))); break;
        }
    }

    private void fractions(List<Call> calls) {
        switch (random.nextInt(4)) {
            case 0: calls.add(new Call("slot", near(0, 5), near(0, 8))); break;
            case 1: calls.add(new Call("term", near(0, 5), near(-1, 7))); break;
            case 2: calls.add(new Call("dance", near(0, 5), random.nextBoolean() ? -1 : near(-1, 30))); break;
            default: calls.add(new Call("least", near(0, 5), near(0, 5), near(0, 8), near(0, 1))); break;
        }
    }

    private void links(List<Call> calls) {
        int[] primes = {2, 3, 5, 7, 11, 13, 3, 5, 7, 1, 4, 17};
        switch (random.nextInt(5)) {
            case 0: calls.add(new Call("link", near(0, 5), near(0, 1), near(0, 4))); break;
            case 1: calls.add(new Call("crossing", near(0, 5), near(0, 1), near(0, upTo(1, 24)), near(0, 2))); break;
            case 2: calls.add(new Call("linked", near(0, 5), near(0, 1), near(0, 2), near(0, 2))); break;
            case 3: {
                int sheet = near(0, 3);
                calls.add(new Call("gauss", sheet, near(0, 5), near(0, 1), near(0, 2)));
                for (int i = random.nextInt(6); i > 0; i--) {
                    calls.add(new Call("of", sheet, upTo(0, 12)));
                }
                break;
            }
            default: calls.add(new Call("colours", near(0, 5), near(0, 1), primes[random.nextInt(primes.length)])); break;
        }
    }

    private void names(List<Call> calls) {
        switch (random.nextInt(8)) {
            case 0: case 1: case 2: calls.add(new Call("name", near(0, 5), near(0, 1), near(0, 6))); break;
            case 3: calls.add(new Call("alike", near(0, 5), near(0, 1), near(0, 5), near(0, 1))); break;
            case 4: calls.add(new Call("listed", near(2, 12), near(-1, 600) >> upTo(0, 8), near(-1, 1))); break;
            case 5: calls.add(new Call("enter", near(0, 5), near(0, 1))); break;
            case 6:
                calls.add(new Call(random.nextBoolean() ? "book" : "ranked", near(0, 20) >> upTo(0, 3), near(0, 2)));
                break;
            default: calls.add(new Call("entered", near(0, 9), near(0, 5))); break;
        }
    }

    private void sheets(List<Call> calls) {
        int[] bits = {0, 8, 16, 32, 64, 64, 64, 8, 12};
        int sheet = near(0, 3);
        switch (random.nextInt(9)) {
            case 0: calls.add(new Call("sheet", sheet, bits[random.nextInt(9)], near(-1, 48) >> upTo(0, 4))); break;
            case 1: case 2: calls.add(new Call("put", sheet, near(0, upTo(1, 6)), any())); break;
            case 3: calls.add(new Call("of", sheet, near(0, upTo(1, 6)))); break;
            case 4: calls.add(new Call("shift", sheet, near(0, 3), near(0, 3), near(0, 3), near(0, 3))); break;
            case 5: case 6: calls.add(new Call("terms", sheet, whole(), whole(), near(0, 3))); break;
            case 7: calls.add(new Call("value", sheet, near(0, 1), near(0, 1))); break;
            default: judge(calls, sheet); break;
        }
    }

    /** A fraction of one whole number, its own terms in a sheet, so that all can be as they must. */
    private void judge(List<Call> calls, int sheet) {
        int slot = near(0, 5);
        if (random.nextBoolean()) {
            int k = upTo(1, 9);
            calls.add(new Call("leaf", slot, k));
            calls.add(new Call("move", slot, 2));
            calls.add(new Call("terms", sheet, -1, k, 3));
            if (random.nextBoolean()) {
                calls.add(new Call("put", sheet, near(0, 2), upTo(-2, 2)));
            }
        }
        calls.add(new Call("judge", sheet, slot));
    }

    private void others(List<Call> calls) {
        switch (random.nextInt(6)) {
            case 0: calls.add(new Call("seed", random.nextInt())); break;
            case 1: calls.add(new Call("image")); break;
            case 2: calls.add(new Call("restore")); break;
            case 3: case 4: calls.add(new Call("count", near(0, 5))); break;
            default: calls.add(new Call("told", near(1, 6))); break;
        }
    }
}
