import java.util.ArrayDeque;
import java.util.Deque;

/** Promises 1 to 20 together: long runs of mixed calls, right and wrong, against the model. */
public final class ModelTest {
    private static final int RUNS = 4000;
    private static final int CALLS = 512;
    private static final int[] CONTENTS = {
        0, 0, 1, 1, 2, -1, -2, -3, -4, Integer.MIN_VALUE, Integer.MAX_VALUE};
    private static final int[] OUTSIDE = {
        -1, -2, 4, 6, 7, 8, 9, 16, 32, -32, Integer.MIN_VALUE, Integer.MAX_VALUE};
    /** How often each of Model.CALLS comes: what takes much away comes seldom. */
    private static final int[] WEIGHTS = {9, 2, 6, 3, 16, 8, 6, 10, 8, 5, 4, 5, 4, 1, 3, 6, 5, 6};

    private long state;
    private final LayerMounts x = new LayerMounts();
    private final Model model = new Model();
    private final Deque<String> last = new ArrayDeque<>();

    private ModelTest(int seed) {
        state = seed;
    }

    public static void main(String[] args) {
        for (int seed = 1; seed <= RUNS; seed++) {
            if (!new ModelTest(seed).run()) {
                Due.tell("the run with seed " + seed + " is not as due");
                break;
            }
        }
        Due.end();
    }

    private boolean run() {
        for (int n = 0; n < CALLS; n++) {
            String call = Model.CALLS[weighted()];
            int a = argument(call.equals("base") || call.equals("compare") ? 6 : 4);
            int b = argument(call.equals("mkdir") || call.equals("rmdir") ? 2
                    : call.equals("mount") || call.equals("compare") ? 6 : 8);
            int c = call.equals("rename") ? argument(8) : CONTENTS[below(CONTENTS.length)];
            int got = answer(call, a, b, c);
            int want = model.answer(call, a, b, c);
            last.add(call + "(" + a + ", " + b + ", " + c + ") answered " + got + ", due is " + want);
            if (got != want) {
                last.forEach(System.out::println);
                return false;
            }
        }
        return true;
    }

    private int answer(String call, int a, int b, int c) {
        switch (call) {
            case "mount": return x.mount(a, b);
            case "unmount": return x.unmount(a);
            case "mkdir": return x.mkdir(a, b);
            case "rmdir": return x.rmdir(a, b);
            case "write": return x.write(a, b, c);
            case "grow": return x.grow(a, b, c);
            case "remove": return x.remove(a, b);
            case "rename": return x.rename(a, b, c);
            case "read": return x.read(a, b);
            case "files": return x.files(a);
            case "directories": return x.directories(a);
            case "commit": return x.commit(a);
            case "drop": return x.drop();
            case "layers": return x.layers();
            case "base": return x.base(a);
            case "changes": return x.changes(a);
            case "compare": return x.compare(a, b);
            default: return x.squash(a);
        }
    }

    private int argument(int bound) {
        return below(25) == 0 ? OUTSIDE[below(OUTSIDE.length)] : below(bound);
    }

    private int weighted() {
        int total = 0;
        for (int weight : WEIGHTS) {
            total += weight;
        }
        int left = below(total);
        int call = 0;
        while (left >= WEIGHTS[call]) {
            left -= WEIGHTS[call];
            call++;
        }
        return call;
    }

    /** A generator of our own, so that every run is the same on every machine. */
    private int below(int bound) {
        state = state * 6364136223846793005L + 1442695040888963407L;
        return (int) ((state >>> 33) % bound);
    }
}
