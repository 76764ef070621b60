import java.io.IOException;
import java.lang.reflect.Method;
import java.nio.charset.StandardCharsets;
import java.nio.file.Files;
import java.nio.file.Path;
import java.util.ArrayList;
import java.util.List;
import java.util.regex.Matcher;
import java.util.regex.Pattern;
import java.util.stream.Stream;

/** README.md's example, call by call on the class, and its list of tests. */
public final class ReadmeTest {
    private static final Path README = Path.of("README.md");
    private static final Pattern CALL = Pattern.compile("x\\.(\\w+)\\((.*?)\\);\\s+// (-?\\d+)(:.*)?");

    private static String readme() {
        try {
            return Files.readString(README, StandardCharsets.UTF_8);
        } catch (IOException e) {
            throw new IllegalStateException(e);
        }
    }

    private static List<String> example() {
        String text = readme();
        int from = text.indexOf("```java\n") + 8;
        List<String> lines = new ArrayList<>();
        for (String line : text.substring(from, text.indexOf("```", from)).split("\n")) {
            if (!line.isBlank()) {
                lines.add(line);
            }
        }
        return lines;
    }

    private static long answer(ShufflingBook x, String name, String[] numbers) {
        for (Method m : ShufflingBook.class.getMethods()) {
            if (m.getName().equals(name) && m.getParameterCount() == numbers.length) {
                return answer(x, m, numbers);
            }
        }
        throw new IllegalStateException(name + " is no call");
    }

    private static long answer(ShufflingBook x, Method m, String[] numbers) {
        Object[] with = new Object[numbers.length];
        for (int k = 0; k < numbers.length; k++) {
            long number = Long.decode(numbers[k].replace("L", ""));
            with[k] = number;
            if (m.getParameterTypes()[k] == int.class) {
                with[k] = Math.toIntExact(number);
            }
        }
        try {
            return ((Number) m.invoke(x, with)).longValue();
        } catch (ReflectiveOperationException e) {
            throw new IllegalStateException(e);
        }
    }

    private static void answersAreTheClassesOwn() {
        ShufflingBook x = new ShufflingBook();
        List<String> lines = example();
        Bench.due("the first line makes the object",
            lines.get(0).startsWith("ShufflingBook x = new ShufflingBook();") ? 1 : 0, 1);
        for (String line : lines.subList(1, lines.size())) {
            Matcher call = CALL.matcher(line);
            Bench.due("a call and its answer: " + line, call.matches() ? 1 : 0, 1);
            if (call.matches()) {
                String[] numbers = call.group(2).isEmpty() ? new String[0] : call.group(2).split(", ");
                Bench.due(line, answer(x, call.group(1), numbers), Long.parseLong(call.group(3)));
            }
        }
    }

    private static void testsAreNamed() {
        for (String folder : new String[] {"src/test/java", "src/test/help"}) {
            try (Stream<Path> files = Files.list(Path.of(folder))) {
                for (Path file : (Iterable<Path>) files::iterator) {
                    String name = file.getFileName().toString().replace(".java", "");
                    Bench.due("README.md names " + name, readme().contains("`" + name + "`") ? 1 : 0, 1);
                }
            } catch (IOException e) {
                throw new IllegalStateException(e);
            }
        }
    }

    private static void testsThatAreNamedAreThere() {
        Matcher named = Pattern.compile("`(\\w+Test)`").matcher(readme());
        while (named.find()) {
            Path file = Path.of("src/test/java", named.group(1) + ".java");
            Bench.due(file + " is there", Files.exists(file) ? 1 : 0, 1);
        }
    }

    public static void main(String[] args) {
        Bench.sentence("an example whose answers are the class's own", ReadmeTest::answersAreTheClassesOwn);
        Bench.sentence("each test is named", ReadmeTest::testsAreNamed);
        Bench.sentence("each test that is named is there", ReadmeTest::testsThatAreNamedAreThere);
        Bench.end();
    }
}
