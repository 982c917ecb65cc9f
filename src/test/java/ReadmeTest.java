import java.io.IOException;
import java.lang.reflect.Method;
import java.nio.file.DirectoryStream;
import java.nio.file.Files;
import java.nio.file.Path;
import java.util.Set;
import java.util.TreeSet;
import java.util.regex.Matcher;
import java.util.regex.Pattern;

/** What README.md says is so: the answers of its example, the classes it names, its list of tests, how they are run. */
public final class ReadmeTest {
    private static final Pattern TEXT = Pattern.compile("String text = \"([^\"]*)\";");
    private static final Pattern CALL = Pattern.compile("(?m)^x\\.(\\w+)\\(([^)]*)\\);(.*)$");
    private static final Pattern ANSWER = Pattern.compile(" *// (-?\\d+): .*");
    private static final Pattern CLASS_NAMED = Pattern.compile("`([A-Z]\\w*)`");
    private static final Pattern ROW = Pattern.compile("(?m)^\\| `(\\w+)` \\|");

    public static void main(String[] args) throws IOException, ReflectiveOperationException {
        String readme = Files.readString(Path.of("README.md"));
        example(between(readme, "```java", "```"));
        classes(between(readme, "## How it is built", "## "));
        testsListed(readme);
        Check.holds("it tells how the tests are run", between(readme, "```sh", "```").trim().equals(".ci/run"));
        Check.holds("they can be run so", Files.isExecutable(Path.of(".ci/run")));
        Check.end();
    }

    private static String between(String all, String begin, String end) {
        int from = all.indexOf(begin);
        int to = from < 0 ? -1 : all.indexOf(end, from + begin.length());
        Check.holds("README.md has a part from '" + begin + "' to '" + end + "'", to >= 0);
        return to < 0 ? "" : all.substring(from + begin.length(), to);
    }

    private static void example(String code) throws ReflectiveOperationException {
        GossipArches x = new GossipArches();
        Matcher text = TEXT.matcher(code);
        Check.holds("the example has a text", text.find());
        Check.feed(x, text.group(1));
        Matcher call = CALL.matcher(code);
        int calls = 0;
        while (call.find()) {
            calls++;
            Matcher answer = ANSWER.matcher(call.group(3));
            boolean told = answer.matches();
            Check.holds("the answer is told: " + call.group(), told);
            int got = answered(x, call.group(1), call.group(2));
            Check.same("README.md: " + call.group(), got, told ? Integer.parseInt(answer.group(1)) : got);
        }
        Check.holds("the example has calls", calls > 0);
    }

    private static int answered(GossipArches x, String name, String numbers) throws ReflectiveOperationException {
        String[] words = numbers.isEmpty() ? new String[0] : numbers.split(", *");
        Class<?>[] kinds = new Class<?>[words.length];
        Object[] values = new Object[words.length];
        for (int i = 0; i < words.length; i++) {
            boolean isNumber = words[i].matches("-?\\d+");
            kinds[i] = isNumber ? int.class : boolean.class;
            values[i] = isNumber ? (Object) Integer.valueOf(words[i]) : (Object) Boolean.valueOf(words[i]);
        }
        Method method = GossipArches.class.getMethod(name, kinds);
        return (int) method.invoke(x, values);
    }

    private static void classes(String part) {
        Set<String> there = new TreeSet<>();
        for (Class<?> inside : GossipArches.class.getDeclaredClasses()) {
            there.add(inside.getSimpleName());
        }
        Check.holds("it names the classes that there are: " + there, allOf(CLASS_NAMED, part).equals(there));
    }

    private static void testsListed(String readme) throws IOException {
        Set<String> there = new TreeSet<>();
        try (DirectoryStream<Path> files = Files.newDirectoryStream(Path.of("src/test/java"), "*Test.java")) {
            for (Path file : files) {
                there.add(file.getFileName().toString().replace(".java", ""));
            }
        }
        Check.holds("its table lists the tests that there are: " + there, allOf(ROW, readme).equals(there));
    }

    private static Set<String> allOf(Pattern pattern, String text) {
        Set<String> found = new TreeSet<>();
        Matcher matcher = pattern.matcher(text);
        while (matcher.find()) {
            found.add(matcher.group(1));
        }
        return found;
    }
}
