import java.lang.management.ManagementFactory;
import java.util.List;

/** What a run makes is counted: a new object and 512 calls must stay small, whatever the calls are. */
public final class RoomTest {
    private static final int CALLS = 512;
    private static final long MOST_BYTES_MADE = 40000;
    private static final long MOST_BYTES_CALLED = 16000;

    private RoomTest() {
    }

    private static long made() {
        return ((com.sun.management.ThreadMXBean) ManagementFactory.getThreadMXBean())
                .getThreadAllocatedBytes(Thread.currentThread().getId());
    }

    private static void tangle(StrandTangles x, String text) {
        List<Draws.Call> calls = new java.util.ArrayList<>();
        Draws.feed(calls, text);
        for (Draws.Call c : calls) {
            x.feed(c.args[0], (int) c.args[1]);
        }
        x.tangle(0);
    }

    /** The dearest calls over and over, on the dearest tangle. */
    private static void use(StrandTangles x, int i) {
        switch (i % 16) {
            case 0: x.listed(2 + i / 16 % 11, 0, 0); break;
            case 1: x.colours(0, 0, 13); break;
            case 2: x.gauss(0, 0, 1, 0); break;
            case 3: x.name(1, 0, 6); break;
            case 4: x.least(0, 1, 8, 1); break;
            case 5: x.dance(0, -1); break;
            case 6: x.terms(1, 999999999, 999999997, 0); break;
            case 7: x.value(1, 0, 0); break;
            case 8: x.feed(0x312B312B312B2831L, 8); break;
            case 9: x.tangle(2); break;
            case 10: x.feed(0x206E727574L, 5); break;
            case 11: x.moves(3); break;
            case 12: x.image(); break;
            case 13: x.restore(); break;
            case 14: x.enter(1, 0); break;
            default: x.join(1, 1, 0, 5); break;
        }
    }

    public static void main(String[] args) {
        Checks checks = new Checks();
        for (int round = 0; round < 20; round++) {
            // The first round also loads classes, which are no part of what the program makes.
            boolean counts = round > 0;
            long before = made();
            StrandTangles x = new StrandTangles();
            long between = made();
            checks.isTrue("a new object is small: " + (between - before),
                    !counts || between - before < MOST_BYTES_MADE);
            tangle(x, "(2+t3)*m-1+(4*t2)+i+(t3*3)+2");
            x.leaf(1, 9);
            long start = made();
            for (int i = 0; i < CALLS; i++) {
                use(x, i);
            }
            long after = made();
            checks.isTrue("calls make little: " + (after - start), !counts || after - start < MOST_BYTES_CALLED);
            if (round == 19) {
                System.out.println("bytes: " + (between - before) + " a new object, " + (after - start) + " its calls");
            }
        }
        checks.end();
    }
}
