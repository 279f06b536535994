import java.nio.file.Files;
import java.nio.file.Path;
import java.util.Arrays;
import java.util.List;
import java.util.regex.Matcher;
import java.util.regex.Pattern;

/** The example of README.md: each line that tells an answer is asked, with the numbers that stand there. */
public final class ReadmeTest {
    private static final Pattern EXAMPLE = Pattern.compile("(?s)```java\n(.*?)```");
    private static final Pattern TEXT = Pattern.compile("String text = \"([^\"]*)\"");
    private static final Pattern LINE = Pattern.compile("x\\.(\\w+)\\(([^()]*)\\); *// (-?\\d+).*");

    public static void main(String[] args) throws Exception {
        Due due = new Due();
        Matcher example = EXAMPLE.matcher(Files.readString(Path.of("README.md")));
        due.isTrue("README.md has an example", example.find());
        Matcher text = TEXT.matcher(example.group(1));
        due.isTrue("the example has a TEXT", text.find());
        NeverTogether x = new NeverTogether();
        int asked = 0;
        for (String line : example.group(1).split("\n")) {
            Matcher call = LINE.matcher(line);
            if (call.matches()) {
                due.is(line, ask(x, call.group(1), numbers(call.group(2))), Long.parseLong(call.group(3)));
                asked++;
            } else if (line.startsWith("x.text(")) {
                due.is(line, x.text(0, text.group(1).length()), Long.parseLong(line.replaceAll(".*// (\\d+).*", "$1")));
            } else if (line.contains("x.put(")) {
                putAll(x, text.group(1));
            }
        }
        due.isTrue("lines that tell an answer: " + asked, asked >= 10);
        due.end("ReadmeTest");
    }

    private static void putAll(NeverTogether x, String text) {
        for (int i = 0; i < text.length(); i++) {
            x.put(0, i, text.charAt(i));
        }
    }

    private static List<Integer> numbers(String list) {
        return list.isBlank() ? List.of() : Arrays.stream(list.split(", ")).map(Integer::valueOf).toList();
    }

    private static long ask(NeverTogether x, String name, List<Integer> numbers) throws Exception {
        Class<?>[] types = new Class<?>[numbers.size()];
        Arrays.fill(types, int.class);
        return ((Number) NeverTogether.class.getMethod(name, types).invoke(x, numbers.toArray())).longValue();
    }
}
