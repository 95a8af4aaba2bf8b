import java.lang.reflect.Method;
import java.lang.reflect.Modifier;
import java.nio.file.Files;
import java.nio.file.Path;
import java.util.ArrayList;
import java.util.List;
import java.util.regex.Matcher;
import java.util.regex.Pattern;

/** README.md's run: each call answers what stands behind it, and each call of the face is shown. */
public final class ReadmeTest {
    private static final Check check = new Check("ReadmeTest");
    private static final Pattern PIECE = Pattern.compile("```java\n(.*?)```", Pattern.DOTALL);
    private static final Pattern TYPED = Pattern.compile("for \\(char letter : \"([^\"]*)\"\\.toCharArray\\(\\)\\) \\{");
    private static final Pattern CALL = Pattern.compile("x\\.(\\w+\\([^)]*\\)); +// (-?[0-9]+|[A-Z]+)\\b.*");
    private static final List<String> NO_CALLS = List.of("AskedRoutes x = new AskedRoutes();", "    x.type(letter);", "}");

    private ReadmeTest() { }

    public static void main(String[] args) throws Exception {
        List<String> lines = lines(Files.readString(Path.of("README.md")));
        String run = scriptOf(lines);
        String wrong = new Script(run).firstWrong(new AskedRoutes());
        check.holds("the run of README.md: " + wrong, wrong == null);
        String wrongOfModel = new Script(run).firstWrong(new Model());
        check.holds("the run of README.md, the model: " + wrongOfModel, wrongOfModel == null);
        for (Method m : AskedRoutes.class.getDeclaredMethods()) {
            if (Modifier.isPublic(m.getModifiers())) {
                check.holds("README.md shows " + m.getName(), run.contains(" " + m.getName() + "("));
            }
        }
        check.holds("README.md tells how to run the tests", Files.readString(Path.of("README.md")).contains("```sh\n.ci/run\n```"));
        check.end();
    }

    private static List<String> lines(String readme) {
        List<String> all = new ArrayList<>();
        Matcher m = PIECE.matcher(readme);
        while (m.find()) {
            all.addAll(m.group(1).lines().toList());
        }
        check.holds("README.md makes one object, at first", all.indexOf(NO_CALLS.get(0)) == 0 && all.lastIndexOf(NO_CALLS.get(0)) == 0);
        return all;
    }

    /** A line that is neither a call with its answer nor one of the few others is told as wrong. */
    private static String scriptOf(List<String> lines) {
        StringBuilder run = new StringBuilder(" ");
        for (String line : lines) {
            Matcher typed = TYPED.matcher(line);
            Matcher call = CALL.matcher(line);
            if (typed.matches()) {
                run.append(Script.typed(typed.group(1)));
            } else if (call.matches()) {
                run.append(lettersAsNumbers(call.group(1))).append("=").append(call.group(2)).append(" ");
            } else {
                check.holds("a call with its answer: " + line, NO_CALLS.contains(line));
            }
        }
        return run.toString();
    }

    private static String lettersAsNumbers(String call) {
        return Pattern.compile("'(.)'").matcher(call).replaceAll(m -> String.valueOf((int) m.group(1).charAt(0)));
    }
}
