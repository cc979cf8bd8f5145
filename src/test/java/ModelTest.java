import java.util.List;

/** Runs of drawn calls: the class must answer each of them as the model does. */
public final class ModelTest {
    private static final int RUNS = 400;
    /** Of 512 calls an object has: the rest is for what pairs and colours must have in common. */
    private static final int CALLS = 428;
    private static final int[] PRIMES = {2, 3, 5, 7, 11, 13};

    private ModelTest() {
    }

    /** There is a colouring by p that isn't of one colour just if p divides the number of THE PAIR. */
    private static void askPairs(Checks checks, StrandTangles object, long seed) {
        for (int slot = 0; slot < 6; slot++) {
            for (int side = 0; side < 2; side++) {
                int value = object.link(slot, side, 4);
                for (int p : PRIMES) {
                    checks.due("seed " + seed + ", slot " + slot + ", side " + side + ": many colours by " + p,
                            object.colours(slot, side, p) > 1 ? 1 : 0, value % p == 0 ? 1 : 0);
                }
            }
        }
    }

    public static void main(String[] args) {
        int runs = args.length > 0 ? Integer.parseInt(args[0]) : RUNS;
        long first = args.length > 1 ? Long.parseLong(args[1]) : 1;
        Checks checks = new Checks();
        for (long seed = first; seed < first + runs && checks.wrong() == 0; seed++) {
            List<Draws.Call> calls = new Draws(seed).run(CALLS);
            StrandTangles object = new StrandTangles();
            Model model = new Model();
            for (int i = 0; i < calls.size() && checks.wrong() == 0; i++) {
                Draws.Call call = calls.get(i);
                long want = model.ask(call.name, call.args);
                checks.due("seed " + seed + ", call " + i + ": " + call,
                        Caller.ask(object, call.name, call.args), want);
            }
            askPairs(checks, object, seed);
        }
        checks.end();
    }
}
