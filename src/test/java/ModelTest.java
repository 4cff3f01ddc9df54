import java.util.ArrayList;
import java.util.Arrays;
import java.util.List;
import java.util.Map;
import java.util.TreeMap;
import java.util.TreeSet;

/** Promises 1 to 20 together: runs of 512 mixed calls, right and wrong, against the model. */
public final class ModelTest {
    private static final int RUNS_OF_A_KIND = 1200;
    private static final int CALLS = 512;
    private static final int CALLS_OF_A_LOOK = 87;
    private static final int[] CONTENTS = {
        0, 0, 1, 1, 2, -1, -2, -3, -4, Integer.MIN_VALUE, Integer.MAX_VALUE};
    /** Outside the range of directories at least, and most of them outside every range. */
    private static final int[] OUTSIDE = {
        -1, -2, 2, 3, 4, 5, 6, 7, 8, 9, 16, 32, -32, Integer.MIN_VALUE, Integer.MAX_VALUE};

    /** The kinds of runs: how often each of Model.CALLS comes, and of how many arguments one is outside. */
    private enum Kind {
        EVERYTHING(25, 9, 2, 6, 3, 16, 8, 6, 10, 8, 5, 4, 5, 4, 1, 3, 6, 5, 6),
        FULL_TREES(100, 9, 1, 9, 1, 40, 12, 2, 9, 12, 3, 1, 2, 1, 1, 1, 5, 3, 3),
        MANY_LAYERS(100, 16, 14, 5, 2, 12, 3, 2, 4, 4, 2, 2, 14, 18, 3, 6, 5, 9, 2),
        WRONG_ARGUMENTS(3, 16, 1, 9, 2, 16, 8, 6, 10, 8, 5, 4, 5, 4, 1, 3, 6, 5, 6);

        private final int arguments;
        private final int[] weights;

        Kind(int arguments, int... weights) {
            this.arguments = arguments;
            this.weights = weights;
        }
    }

    /** For each call the answers that have been due in some run. */
    private static final Map<String, TreeSet<Integer>> TRIED = new TreeMap<>();

    private final Kind kind;
    private final int seed;
    private long state;
    private final Run run = Run.of("");
    private final Model model = new Model();
    private final List<String> told = new ArrayList<>();

    private ModelTest(Kind kind, int seed) {
        this.kind = kind;
        this.seed = seed;
        state = seed;
    }

    public static void main(String[] args) {
        boolean asDue = true;
        for (Kind kind : Kind.values()) {
            for (int seed = 1; seed <= RUNS_OF_A_KIND && asDue; seed++) {
                asDue = new ModelTest(kind, seed).isAsDue();
            }
        }
        if (asDue) {
            everyKindOfAnswerWasTried();
        }
        Due.end();
    }

    private boolean isAsDue() {
        for (int n = 0; n < CALLS - CALLS_OF_A_LOOK; n++) {
            String call = Model.CALLS[weighted()];
            int a = argument(call.equals("base") || call.equals("compare") ? 6 : 4);
            int b = argument(call.equals("mkdir") || call.equals("rmdir") ? 2
                    : call.equals("mount") || call.equals("compare") ? 6 : 8);
            int c = call.equals("rename") ? argument(8) : CONTENTS[below(CONTENTS.length)];
            if (!answersAsDue(call, a, b, c)) {
                return false;
            }
        }
        return looksAsDue();
    }

    /** Asks for all that can be seen without a change, so that nothing wrong stays hidden in a run. */
    private boolean looksAsDue() {
        boolean asDue = answersAsDue("layers", 0, 0, 0);
        for (int m = 0; m < 4; m++) {
            asDue = asDue && answersAsDue("files", m, 0, 0);
            asDue = asDue && answersAsDue("directories", m, 0, 0);
            asDue = asDue && answersAsDue("changes", m, 0, 0);
            for (int f = 0; f < 8; f++) {
                asDue = asDue && answersAsDue("read", m, f, 0);
            }
        }
        for (int l = 0; l < 6; l++) {
            asDue = asDue && answersAsDue("base", l, 0, 0);
            for (int k = 0; k < 6; k++) {
                asDue = asDue && answersAsDue("compare", l, k, 0);
            }
        }
        return asDue;
    }

    private boolean answersAsDue(String call, int a, int b, int c) {
        int[] args = Arrays.copyOf(new int[] {a, b, c}, Run.parameters(call));
        int got = run.answer(call, args);
        int want = model.answer(call, a, b, c);
        TRIED.computeIfAbsent(call, name -> new TreeSet<>()).add(want);
        told.add(call + Arrays.toString(args) + " answered " + got + ", due is " + want);
        if (got != want) {
            told.forEach(System.out::println);
            Due.tell("the last answer of this run is not as due: " + kind + ", seed " + seed);
        }
        return got == want;
    }

    /** A run that never comes to an answer could not tell that it is wrong. */
    private static void everyKindOfAnswerWasTried() {
        tried("mount", -4, -3, -1, 0);
        tried("unmount", -3, -1, 0);
        tried("mkdir", -4, -3, -1, 0);
        tried("rmdir", -4, -3, -1, 0, 1, 2, 3, 4);
        tried("write", -4, -3, -1, 0, 1);
        tried("grow", -4, -3, -1, 0);
        tried("remove", -4, -3, -1, 0);
        tried("rename", -4, -3, -1, 0, 1);
        tried("read", Integer.MIN_VALUE, -4, -3, -2, -1, 0, 1, 2, Integer.MAX_VALUE);
        tried("files", -3, -1, 0, 15, 240, 255);
        tried("directories", -3, -1, 0, 1, 2, 3);
        tried("commit", -3, -2, -1, 1, 2, 3, 4, 5);
        tried("drop", -4, 1, 2, 3, 4, 5);
        tried("layers", 1, 2, 3, 4, 5, 6);
        tried("base", -4, 0, 1, 2, 3, 4);
        tried("changes", -3, -1, 0, 1, 2, 3, 4, 5, 6, 7, 8);
        tried("compare", -4, 0, 1, 128, 255);
        tried("squash", -3, -1, 0);
    }

    private static void tried(String call, int... answers) {
        for (int answer : answers) {
            if (!TRIED.get(call).contains(answer)) {
                Due.tell("in no run " + call + " had to answer " + answer);
            }
        }
    }

    private int argument(int bound) {
        return below(kind.arguments) == 0 ? OUTSIDE[below(OUTSIDE.length)] : below(bound);
    }

    private int weighted() {
        int left = below(Arrays.stream(kind.weights).sum());
        int call = 0;
        while (left >= kind.weights[call]) {
            left -= kind.weights[call];
            call++;
        }
        return call;
    }

    /** A generator of our own, so that every run is the same on every machine. */
    private int below(int bound) {
        state = state * 6364136223846793005L + 1442695040888963407L;
        return (int) ((state >>> 33) % bound);
    }
}
