import java.io.File;
import java.lang.reflect.Method;
import java.util.regex.Matcher;
import java.util.regex.Pattern;

/** README.md tells how to use the class as the document does, and what it tells is so. */
public final class ReadmeTest {
    private static final int PROMISES = 15;
    private static final int EXAMPLES = 2;
    private static final String[] CONSTANTS = {"BAD", "FULL", "NOTHING", "LOST", "WRONG"};
    private static final Pattern PROMISE = Pattern.compile("## Promise \\d+: .*\n\n`([^`]+)`: (.+)\n");
    private static final Pattern EXAMPLE = Pattern.compile("```java\n(.*?)```", Pattern.DOTALL);
    private static final Pattern CALL = Pattern.compile("x\\.(\\w+)\\((.*)\\); +// (\\w+): .+");

    public static void main(String[] args) throws Exception {
        String readme = Texts.readme();
        promisesStandInTheDocumentsWords(readme);
        constantsStandWithTheirValues(readme);
        examplesAnswerAsTold(readme);
        testsAreNamed(readme);
        Kit.finish();
    }

    private static void promisesStandInTheDocumentsWords(String readme) {
        Matcher promise = PROMISE.matcher(Texts.document());
        int count = 0;
        while (promise.find()) {
            count++;
            String face = promise.group(1);
            String section = section(readme, face);
            Kit.due("README.md says of " + face + ": " + promise.group(2),
                    Texts.flat(section).contains(promise.group(2)), true);
            if (!face.equals("ParityVolume()")) {
                answersAreTold(face, section, promise.group(2));
            }
        }
        Kit.due("promises of the document", count, PROMISES);
    }

    /** The text below the heading of a call, up to the next one; empty if there is no such heading. */
    private static String section(String readme, String face) {
        String heading = "### `" + face + "`\n";
        int from = readme.indexOf(heading);
        if (from < 0) {
            return "";
        }
        int to = readme.indexOf("\n### ", from);
        return readme.substring(from + heading.length(), to < 0 ? readme.length() : to);
    }

    private static void answersAreTold(String face, String section, String words) {
        int from = section.indexOf("\nAnswers: ");
        Kit.due("README.md tells the answers of " + face, from >= 0, true);
        String answers = from < 0 ? "" : section.substring(from);
        for (String name : CONSTANTS) {
            Kit.due("README.md tells the answer " + name + " of " + face,
                    answers.contains("`" + name + "`"), words.matches(".*\\b" + name + "\\b.*"));
        }
        Kit.due("README.md tells the answer true of " + face,
                answers.contains("true, false"), face.startsWith("boolean "));
    }

    private static void constantsStandWithTheirValues(String readme) throws ReflectiveOperationException {
        for (String name : CONSTANTS) {
            String row = "| `" + name + "` | " + constant(name) + " | ";
            Kit.due("README.md has " + row, readme.contains(row), true);
        }
    }

    private static void examplesAnswerAsTold(String readme) throws ReflectiveOperationException {
        Matcher example = EXAMPLE.matcher(readme);
        int count = 0;
        while (example.find()) {
            count++;
            String[] lines = example.group(1).split("\n");
            Kit.due("example " + count + " makes an object",
                    lines[0].equals("ParityVolume x = new ParityVolume();"), true);
            ParityVolume x = new ParityVolume();
            for (int i = 1; i < lines.length; i++) {
                answersAsTold(x, lines[i]);
            }
        }
        Kit.due("examples", count, EXAMPLES);
    }

    private static void answersAsTold(ParityVolume x, String line) throws ReflectiveOperationException {
        Matcher call = CALL.matcher(line);
        Kit.due("a call and its answer: " + line, call.matches(), true);
        if (call.matches()) {
            String told = call.group(3);
            String want = told.matches("[A-Z]+") ? constant(told) : told;
            String got = String.valueOf(answer(x, call.group(1), call.group(2)));
            Kit.due("README.md's " + line.trim() + " answers " + got + ", which is as told", got.equals(want), true);
        }
    }

    private static Object answer(ParityVolume x, String name, String list) throws ReflectiveOperationException {
        Method method = methodNamed(name);
        Class<?>[] types = method.getParameterTypes();
        String[] texts = list.isEmpty() ? new String[0] : list.split(", ");
        Kit.due("arguments of " + name, texts.length, types.length);
        Object[] values = new Object[types.length];
        for (int i = 0; i < types.length; i++) {
            long value = Long.decode(texts[i].replace("L", ""));
            if (types[i] == long.class) {
                values[i] = value;
            } else {
                values[i] = Math.toIntExact(value);
            }
        }
        return method.invoke(x, values);
    }

    private static Method methodNamed(String name) {
        for (Method m : ParityVolume.class.getMethods()) {
            if (m.getName().equals(name)) {
                return m;
            }
        }
        throw new IllegalArgumentException("README.md calls " + name);
    }

    private static String constant(String name) throws ReflectiveOperationException {
        return String.valueOf(ParityVolume.class.getField(name).getInt(null));
    }

    private static void testsAreNamed(String readme) {
        File[] tests = new File("src/test/java").listFiles((dir, name) -> name.endsWith(".java"));
        Kit.due("the tests are found", tests != null && tests.length > 0, true);
        for (File test : tests == null ? new File[0] : tests) {
            String name = test.getName().replace(".java", "");
            Kit.due("README.md names " + name, readme.contains("`" + name + "`"), true);
        }
    }
}
