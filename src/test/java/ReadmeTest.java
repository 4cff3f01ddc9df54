import java.io.IOException;
import java.nio.file.Files;
import java.nio.file.Path;
import java.util.Arrays;
import java.util.regex.Matcher;
import java.util.regex.Pattern;

/** README.md, so that nobody learns a wrong use from it: its example, its calls and its codes. */
public final class ReadmeTest {
    private static final Pattern EXAMPLE = Pattern.compile("```java\\n(.*?)```", Pattern.DOTALL);
    private static final Pattern STEP = Pattern.compile("x\\.(\\w+)\\(([^)]*)\\); *// (-?\\w+)(:.*)?");
    private static final Pattern CALL = Pattern.compile("(?m)^\\| `(\\w+)\\(([^)]*)\\)`");
    private static final Pattern CODE = Pattern.compile("(?m)^\\| `([A-Z_]+)` *\\| (-\\d) ");

    public static void main(String[] args) throws IOException {
        String readme = Files.readString(Path.of("README.md")).replace("\r", "");
        theExampleAnswersWhatItSays(readme);
        everyCallIsTold(readme);
        everyCodeIsTold(readme);
        everyTestIsTold(readme);
        Due.end();
    }

    private static void theExampleAnswersWhatItSays(String readme) {
        Matcher example = EXAMPLE.matcher(readme);
        demand(example.find(), "there is no example");
        String[] lines = example.group(1).split("\n");
        demand(lines[0].equals("LayerMounts x = new LayerMounts();"), "the example makes no object first");
        Run run = Run.of("");
        for (String line : Arrays.copyOfRange(lines, 1, lines.length)) {
            Matcher step = STEP.matcher(line);
            demand(step.matches(), "this is no call with its answer: " + line);
            run.then(step.group(1) + " " + step.group(2).replace(",", "") + " = " + step.group(3));
        }
    }

    private static void everyCallIsTold(String readme) {
        Matcher call = CALL.matcher(readme);
        for (String name : Model.CALLS) {
            demand(call.find() && call.group(1).equals(name), "the table has no row for " + name);
            int parameters = call.group(2).isEmpty() ? 0 : call.group(2).split(", ").length;
            demand(parameters == Run.parameters(name), name + " has another number of parameters");
        }
        demand(!call.find(), "the table has a call too many");
    }

    private static void everyCodeIsTold(String readme) {
        StringBuilder told = new StringBuilder();
        Matcher code = CODE.matcher(readme);
        while (code.find()) {
            told.append(code.group(1)).append(" = ").append(code.group(2)).append('\n');
        }
        Due.same(told.toString(), "BAD_ARG = " + LayerMounts.BAD_ARG + "\nFULL = " + LayerMounts.FULL
                + "\nUNUSED = " + LayerMounts.UNUSED + "\nNONE = " + LayerMounts.NONE + "\n");
    }

    private static void everyTestIsTold(String readme) throws IOException {
        try (var files = Files.list(Path.of("src", "test", "java"))) {
            files.map(file -> file.getFileName().toString().replace(".java", ""))
                    .filter(name -> name.endsWith("Test"))
                    .forEach(name -> demand(readme.contains("`" + name + "`"), name + " is not told"));
        }
    }

    private static void demand(boolean holds, String fault) {
        if (!holds) {
            Due.tell("README.md: " + fault);
            Due.end();
        }
    }
}
