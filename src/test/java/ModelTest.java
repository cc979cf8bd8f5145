import java.util.List;

/** Runs of drawn calls: the class must answer each of them as the model does. */
public final class ModelTest {
    private static final int RUNS = 400;
    private static final int CALLS = 512;

    private ModelTest() {
    }

    public static void main(String[] args) {
        int runs = args.length > 0 ? Integer.parseInt(args[0]) : RUNS;
        long first = args.length > 1 ? Long.parseLong(args[1]) : 1;
        Checks checks = new Checks();
        for (long seed = first; seed < first + runs && checks.wrong() == 0; seed++) {
            List<Draws.Call> calls = new Draws(seed).run(CALLS);
            StrandTangles object = new StrandTangles();
            Model model = new Model();
            for (int i = 0; i < calls.size() && checks.wrong() == 0; i++) {
                Draws.Call call = calls.get(i);
                long want = model.ask(call.name, call.args);
                checks.due("seed " + seed + ", call " + i + ": " + call,
                        Caller.ask(object, call.name, call.args), want);
            }
        }
        checks.end();
    }
}
