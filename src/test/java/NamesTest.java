import java.util.ArrayList;
import java.util.List;

/** Every name of every size that is listed, made from its terms, on a new object for each. */
public final class NamesTest {
    private static final Checks CHECKS = new Checks();

    private NamesTest() {
    }

    /** The calls that make P / Q in slot 0: its terms from the last on, with 1 by it between them. */
    private static List<Draws.Call> made(int p, int q) {
        List<Integer> terms = new ArrayList<>();
        for (int a = p, b = q; b != 0; ) {
            terms.add(0, a / b);
            int rest = a % b;
            a = b;
            b = rest;
        }
        List<Draws.Call> calls = new ArrayList<>();
        for (int i = 0; i < terms.size(); i++) {
            if (i > 0) {
                calls.add(new Draws.Call("move", 0, 2));
                calls.add(new Draws.Call("move", 0, 3));
            }
            for (int n = 0; n < terms.get(i); n++) {
                calls.add(new Draws.Call("move", 0, 0));
            }
        }
        return calls;
    }

    private static void ask(StrandTangles object, Model model, String call, long... args) {
        CHECKS.due(new Draws.Call(call, args).toString(), Caller.ask(object, call, args), model.ask(call, args));
    }

    public static void main(String[] args) {
        int[] primes = {2, 3, 5, 7, 11, 13};
        StrandTangles lists = new StrandTangles();
        for (int size = 2; size <= 12; size++) {
            int n = lists.listed(size, 0, -1);
            for (int i = 0; i < n; i++) {
                int p = lists.listed(size, i, 0);
                int q = lists.listed(size, i, 1);
                StrandTangles object = new StrandTangles();
                Model model = new Model();
                for (Draws.Call call : made(p, q)) {
                    ask(object, model, call.name, call.args);
                }
                CHECKS.due("P of " + p + " / " + q, object.name(0, 0, 0), p);
                CHECKS.due("Q of " + p + " / " + q, object.name(0, 0, 1), q);
                CHECKS.due("size of " + p + " / " + q, object.name(0, 0, 2), size);
                for (int what = 0; what <= 6; what++) {
                    ask(object, model, "name", 0, 0, what);
                    ask(object, model, "name", 0, 1, what);
                }
                for (int prime : primes) {
                    CHECKS.due("colours of " + p + " / " + q + " by " + prime,
                            object.colours(0, 0, prime), p % prime == 0 ? 2 : 1);
                }
                CHECKS.due("components of " + p + " / " + q, object.link(0, 0, 0), p % 2 == 0 ? 2 : 1);
                ask(object, model, "link", 0, 0, 3);
                ask(object, model, "dance", 0, -1);
            }
        }
        CHECKS.end();
    }
}
