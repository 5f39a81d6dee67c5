import java.io.File;
import java.lang.reflect.Method;
import java.nio.file.Files;
import java.nio.file.Path;
import java.util.TreeSet;
import java.util.regex.Matcher;
import java.util.regex.Pattern;

/** README.md tells the truth: its run of calls has the answers it tells, and it names every test there is. */
public final class ReadmeTest {
    private static final Pattern RUN = Pattern.compile("(?s)```java\nOneBarrel x = new OneBarrel\\(\\);\n(.*?)```");
    private static final Pattern CALL = Pattern.compile("x\\.(\\w+)\\(([^)]*)\\); +// (NONE - 1|NONE|true|false|\\d+)(:.*)?");
    private static final Pattern NAMED_TEST = Pattern.compile("(?m)^\\| `(\\w+Test)` \\|");
    private static final int FEWEST_CALLS = 20;

    public static void main(String[] args) throws Exception {
        String readme = Files.readString(Path.of("README.md"));
        runOfCalls(readme);
        namesOfTests(readme);
        TestTools.due("README.md tells how the tests are run", readme.contains("bash .ci/run"), true);
        TestTools.due(".ci/run can be run", new File(".ci/run").canExecute(), true);
        TestTools.close();
    }

    /** A line that is no remark and no call with its answer is wrong, so that none goes unseen. */
    private static void runOfCalls(String readme) throws Exception {
        Matcher run = RUN.matcher(readme);
        boolean found = run.find();
        TestTools.due("README.md has a run of calls", found, true);
        OneBarrel x = new OneBarrel();
        int calls = 0;
        for (String line : found ? run.group(1).split("\n") : new String[0]) {
            Matcher call = CALL.matcher(line);
            if (call.matches()) {
                calls++;
                TestTools.due("README.md: " + line, answer(x, call.group(1), call.group(2)), told(call.group(3)));
            } else {
                TestTools.due("README.md: " + line, line.isEmpty() || line.startsWith("//") ? 0 : 1, 0);
            }
        }
        TestTools.due(calls + " calls are enough to see something", calls >= FEWEST_CALLS, true);
        TestTools.due(calls + " calls are promised", calls <= 512, true);
    }

    private static long answer(OneBarrel x, String name, String arguments) throws Exception {
        String[] words = arguments.isEmpty() ? new String[0] : arguments.split(", ");
        for (Method method : OneBarrel.class.getMethods()) {
            if (method.getName().equals(name) && method.getParameterCount() == words.length) {
                Object[] values = new Object[words.length];
                for (int n = 0; n < words.length; n++) {
                    boolean isTruth = method.getParameterTypes()[n] == boolean.class;
                    values[n] = isTruth ? (Object) Boolean.valueOf(words[n]) : (Object) Integer.decode(words[n]);
                }
                Object answer = method.invoke(x, values);
                return answer instanceof Boolean truth ? (truth ? 1 : 0) : (Integer) answer;
            }
        }
        TestTools.due("the class has " + name + "(" + arguments + ")", false, true);
        return 0;
    }

    private static long told(String answer) {
        switch (answer) {
            case "NONE - 1":
                return -2;
            case "NONE":
                return -1;
            case "true":
                return 1;
            case "false":
                return 0;
            default:
                return Long.parseLong(answer);
        }
    }

    private static void namesOfTests(String readme) {
        TreeSet<String> named = new TreeSet<>();
        Matcher name = NAMED_TEST.matcher(readme);
        while (name.find()) {
            named.add(name.group(1));
        }
        TreeSet<String> there = new TreeSet<>();
        String[] files = new File("src/test/java").list();
        for (String file : files == null ? new String[0] : files) {
            if (file.endsWith("Test.java")) {
                there.add(file.substring(0, file.length() - ".java".length()));
            }
        }
        TestTools.due("README.md names " + named + ", there are " + there, named.equals(there), true);
    }
}
