import java.io.IOException;
import java.lang.reflect.InvocationTargetException;
import java.lang.reflect.Method;
import java.nio.file.Files;
import java.nio.file.Path;
import java.util.List;
import java.util.Set;
import java.util.TreeSet;
import java.util.regex.Matcher;
import java.util.regex.Pattern;
import java.util.stream.Stream;

/** README.md stays true: its example answers what it says there, and it names every test that there is. */
public final class ReadmeTest {
    private static final Path README = Path.of("README.md");
    private static final Path TESTS = Path.of("src/test/java");
    private static final Pattern EXAMPLE = Pattern.compile("```java\n(.*?)```", Pattern.DOTALL);
    private static final Pattern CALL = Pattern.compile("x\\.(\\w+)\\((.*?)\\);");
    /** Only a comment that is a value, or begins with one and a colon, tells an answer. */
    private static final Pattern ANSWER = Pattern.compile("// (-?\\d+|true|false)(:.*)?");
    private static final Pattern TEST_NAME = Pattern.compile("\\b[A-Z]\\w*Test\\b");

    public static void main(String[] args) throws IOException, ReflectiveOperationException {
        String readme = Files.readString(README);
        exampleAnswersWhatItSays(readme);
        Due.text("the tests that README.md names", namedIn(readme).toString(), testsThatThereAre().toString());
        Due.yes("README.md names .ci/run", readme.contains("`.ci/run`"));
        Due.end();
    }

    private static void exampleAnswersWhatItSays(String readme) throws ReflectiveOperationException {
        Matcher example = EXAMPLE.matcher(readme);
        Due.yes("README.md has an example", example.find());
        List<String> lines = example.group(1).lines().toList();
        Due.text("the example's first line", lines.get(0), "BrownoutCore x = new BrownoutCore();");
        BrownoutCore x = new BrownoutCore();
        int told = 0;
        for (String line : lines.subList(1, lines.size())) {
            Matcher call = CALL.matcher(line);
            Due.yes("a call: " + line, call.lookingAt());
            String got = answer(x, call.group(1), call.group(2));
            Matcher due = ANSWER.matcher(line.substring(call.end()).strip());
            if (due.matches()) {
                told++;
                Due.text(call.group(), got, due.group(1));
            }
        }
        Due.yes("the example tells answers", told > 0);
    }

    private static String answer(BrownoutCore x, String name, String written)
            throws IllegalAccessException, InvocationTargetException {
        Object[] numbers = written.isEmpty()
                ? new Object[0]
                : Stream.of(written.split(", ")).map(Integer::decode).toArray();
        for (Method m : BrownoutCore.class.getMethods()) {
            if (m.getName().equals(name) && m.getParameterCount() == numbers.length) {
                return String.valueOf(m.invoke(x, numbers));
            }
        }
        return "no method of the class";
    }

    private static Set<String> namedIn(String readme) {
        Set<String> names = new TreeSet<>();
        TEST_NAME.matcher(readme).results().forEach(found -> names.add(found.group()));
        return names;
    }

    private static Set<String> testsThatThereAre() throws IOException {
        Set<String> names = new TreeSet<>();
        try (Stream<Path> files = Files.list(TESTS)) {
            files.map(file -> file.getFileName().toString())
                    .filter(name -> name.endsWith("Test.java"))
                    .forEach(name -> names.add(name.substring(0, name.length() - ".java".length())));
        }
        return names;
    }
}
