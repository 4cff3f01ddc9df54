import java.lang.reflect.Method;
import java.util.Arrays;
import java.util.Map;
import java.util.TreeMap;

/**
 * A run of calls on one new object, told as text: "mount 0 0; write 0 5 7 = NONE; read 0 5 = 0".
 * A call without an answer that is due must not be refused.
 */
final class Run {
    /** What the document says an object is used for; no test may ask more of one. */
    private static final int CALLS = 512;
    private static final Map<String, Method> METHODS = new TreeMap<>();

    static {
        for (Method method : LayerMounts.class.getMethods()) {
            if (method.getDeclaringClass() == LayerMounts.class) {
                METHODS.put(method.getName(), method);
            }
        }
    }

    private final LayerMounts x = new LayerMounts();
    private int calls = 0;

    private Run() {
    }

    static Run of(String text) {
        return new Run().then(text);
    }

    /** The call answers the code, and all that can be seen afterwards is as without the call. */
    static void refused(String scene, String call, int code) {
        unseen(scene, call + " = " + code);
    }

    /** All that can be seen after the calls is as without them. */
    static void unseen(String scene, String text) {
        String after = of(scene).then(text).rest();
        String without = of(scene).rest();
        if (!after.equals(without)) {
            Due.tell("after " + text + " there is\n" + after + "without it\n" + without);
        }
    }

    Run then(String text) {
        for (String line : text.split(";")) {
            if (!line.isBlank()) {
                step(line.trim());
            }
        }
        return this;
    }

    /** The mount's tree and how many changes it has, as View tells them. */
    Run sees(int m, String want) {
        calls += 11;
        Due.same(View.mount(x, m) + "\n", want + "\n");
        return this;
    }

    int answer(String name, int... args) {
        calls++;
        if (calls > CALLS) {
            Due.tell("the test itself makes more than " + CALLS + " calls");
        }
        try {
            return (int) METHODS.get(name).invoke(x, Arrays.stream(args).boxed().toArray());
        } catch (ReflectiveOperationException e) {
            Due.tell(name + Arrays.toString(args) + " threw " + e.getCause());
            return Integer.MIN_VALUE;
        }
    }

    /** All that can be seen of the object from here on. The run ends with it. */
    String rest() {
        if (calls > CALLS - View.CALLS_TO_THE_END) {
            Due.tell("too few calls are left to look at everything");
        }
        calls = CALLS;
        return View.toTheEnd(x);
    }

    static int parameters(String name) {
        return METHODS.get(name).getParameterCount();
    }

    private void step(String line) {
        String[] sides = line.split(" = ");
        String[] words = sides[0].trim().split(" ");
        int[] args = new int[words.length - 1];
        for (int n = 0; n < args.length; n++) {
            args[n] = number(words[n + 1]);
        }
        int got = answer(words[0], args);
        if (sides.length == 2 && got != number(sides[1])) {
            Due.tell(sides[0] + " answered " + got + ", due is " + sides[1]);
        }
        if (sides.length == 1 && got < 0 && !words[0].equals("read")) {
            Due.tell(line + " was refused with " + got);
        }
    }

    private static int number(String word) {
        switch (word) {
            case "BAD_ARG": return -1;
            case "FULL": return -2;
            case "UNUSED": return -3;
            case "NONE": return -4;
            case "MIN": return Integer.MIN_VALUE;
            case "MAX": return Integer.MAX_VALUE;
            default: return Integer.parseInt(word);
        }
    }
}
