import java.util.Arrays;

/**
 * Every call with every mixture of arguments inside and outside their ranges, in every scene.
 * The model says what is to be answered.
 */
public final class RefusedCallsTest {
    private static final int[] FIRST = {Integer.MIN_VALUE, -1, 0, 1, 2, 3, 4, 5, 6, Integer.MAX_VALUE};
    private static final int[] OTHERS = {
        Integer.MIN_VALUE, -1, 0, 1, 2, 3, 4, 5, 6, 7, 8, 32, Integer.MAX_VALUE};
    private static final int[] NO_PARAMETER = {0};

    private interface Trial {
        void of(String scene, String call, int... args);
    }

    public static void main(String[] args) {
        everyCall(RefusedCallsTest::neverThrows);
        everyCall(RefusedCallsTest::answersTheCodeNamed);
        for (String scene : Scenes.ALL) {
            String untouched = Run.of(scene).rest();
            everyCallIn(scene, (same, call, values) -> changesNothing(same, call, values, untouched));
        }
        Due.end();
    }

    // "No call ever throws."
    private static void neverThrows(String scene, String call, int... args) {
        // Run tells what a call throws.
        Run.of(scene).answer(call, args);
    }

    // "A refused call answers the code named"
    private static void answersTheCodeNamed(String scene, String call, int... args) {
        int got = Run.of(scene).answer(call, args);
        int want = dueAfter(scene, call, args);
        if (got != want) {
            Due.tell("after " + scene + ": " + call + Arrays.toString(args) + " answered " + got + ", due is " + want);
        }
    }

    // "and changes nothing."
    private static void changesNothing(String scene, String call, int[] args, String untouched) {
        // Of all calls but read, codes are the only answers below 0; and read changes nothing anyway.
        if (dueAfter(scene, call, args) >= 0 && !call.equals("read")) {
            return;
        }
        Run run = Run.of(scene);
        run.answer(call, args);
        if (!run.rest().equals(untouched)) {
            Due.tell("after " + scene + ": " + call + Arrays.toString(args) + " changed something");
        }
    }

    private static void everyCall(Trial trial) {
        for (String scene : Scenes.ALL) {
            everyCallIn(scene, trial);
        }
    }

    private static void everyCallIn(String scene, Trial trial) {
        for (String call : Model.CALLS) {
            int parameters = Run.parameters(call);
            for (int a : parameters > 0 ? FIRST : NO_PARAMETER) {
                for (int b : parameters > 1 ? OTHERS : NO_PARAMETER) {
                    for (int c : parameters > 2 ? OTHERS : NO_PARAMETER) {
                        trial.of(scene, call, Arrays.copyOf(new int[] {a, b, c}, parameters));
                    }
                }
            }
        }
    }

    private static int dueAfter(String scene, String call, int[] args) {
        Model model = new Model();
        for (String line : scene.split(";")) {
            String[] words = line.trim().split(" ");
            if (!words[0].isEmpty()) {
                int[] numbers = Arrays.stream(words).skip(1).mapToInt(Integer::parseInt).toArray();
                answer(model, words[0], numbers);
            }
        }
        return answer(model, call, args);
    }

    private static int answer(Model model, String call, int[] args) {
        int[] three = Arrays.copyOf(args, 3);
        return model.answer(call, three[0], three[1], three[2]);
    }
}
