import java.io.File;
import java.io.IOException;
import java.lang.reflect.Method;
import java.lang.reflect.Modifier;
import java.nio.file.Files;
import java.nio.file.Path;
import java.util.ArrayList;
import java.util.List;
import java.util.regex.Matcher;
import java.util.regex.Pattern;

/**
 * README.md keeps to the class: each call of its example answers what stands beside it, and it names
 * every call and every test. Run from the project's directory, as .ci/run does.
 */
public final class ReadmeTest {
    private static final Pattern NEW_OBJECT = Pattern.compile("FsmReducer x = new FsmReducer\\((\\d+)\\);.*");
    private static final Pattern CALL = Pattern.compile("x\\.(\\w+)\\(([-\\d, ]*)\\); +// (.*)");
    private static final Pattern ANSWER = Pattern.compile("answers (-?\\d+)\\b.*");

    /** Too few would mean that the example is no longer found. */
    private static final int FEWEST_ANSWERS = 20;

    private static int wrong = 0;

    public static void main(String[] args) throws IOException, ReflectiveOperationException {
        String readme = Files.readString(Path.of("README.md"));
        exampleAnswers(readme.lines().map(String::strip).toList());
        namesEveryCall(readme);
        namesEveryTest(readme);
        System.out.println(wrong == 0 ? "README.md keeps to the class" : wrong + " things in README.md are wrong");
        if (wrong != 0) {
            System.exit(1);
        }
    }

    private static void isWrong(String what) {
        wrong++;
        System.out.println("README.md: " + what);
    }

    private static void exampleAnswers(List<String> lines) throws ReflectiveOperationException {
        FsmReducer x = null;
        int answers = 0;
        for (String line : lines) {
            Matcher newObject = NEW_OBJECT.matcher(line);
            Matcher call = CALL.matcher(line);
            if (newObject.matches()) {
                x = new FsmReducer(Integer.parseInt(newObject.group(1)));
            } else if (call.matches()) {
                Object got = answerOf(x, call.group(1), call.group(2));
                answers += isAsTold(line, got, call.group(3)) ? 1 : 0;
            } else if (line.startsWith("x.")) {
                isWrong("a call without what it answers: " + line);
            }
        }
        if (answers < FEWEST_ANSWERS) {
            isWrong("only " + answers + " right answers in the example");
        }
    }

    private static Object answerOf(FsmReducer x, String name, String given) throws ReflectiveOperationException {
        List<Object> arguments = new ArrayList<>();
        List<Class<?>> types = new ArrayList<>();
        if (!given.isEmpty()) {
            for (String number : given.split(", ")) {
                arguments.add(Integer.valueOf(number));
                types.add(int.class);
            }
        }
        Method method = FsmReducer.class.getMethod(name, types.toArray(new Class<?>[0]));
        return method.invoke(x, arguments.toArray());
    }

    private static boolean isAsTold(String line, Object got, String comment) {
        Matcher answer = ANSWER.matcher(comment);
        boolean told = answer.matches();
        if (told ? !answer.group(1).equals(String.valueOf(got)) : got != null) {
            isWrong("the answer is " + got + " and not as in: " + line);
            return false;
        }
        return told;
    }

    private static void namesEveryCall(String readme) {
        for (Method method : FsmReducer.class.getDeclaredMethods()) {
            if (Modifier.isPublic(method.getModifiers()) && !readme.contains("| `" + method.getName() + "(")) {
                isWrong("the table of calls does not have " + method.getName());
            }
        }
        if (!readme.contains("`new FsmReducer(states)`") || !readme.contains("`FsmReducer.NONE`")) {
            isWrong("the making of an object or NONE is not named");
        }
    }

    private static void namesEveryTest(String readme) {
        String[] tests = new File("src/test/java").list((directory, name) -> name.endsWith(".java"));
        if (tests == null || tests.length == 0) {
            isWrong("there are no tests in src/test/java");
            return;
        }
        for (String test : tests) {
            if (!readme.contains("`src/test/java/" + test + "`")) {
                isWrong("the test " + test + " is not named");
            }
        }
    }
}
