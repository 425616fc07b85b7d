import java.io.IOException;
import java.lang.reflect.Method;
import java.lang.reflect.Modifier;
import java.nio.file.Files;
import java.nio.file.Path;
import java.util.Set;
import java.util.TreeSet;
import java.util.regex.Matcher;
import java.util.regex.Pattern;

/** The example in README.md: each call there answers what stands behind it, and every call of the face is shown. */
final class ReadmeTest {
    private static final Pattern SAID = Pattern.compile("for \\(char sign : \"([^\"]+)\"\\.toCharArray\\(\\)\\) \\{");
    private static final Pattern CALL = Pattern.compile("plate\\.((\\w+)\\(.*\\)); +// (-?[0-9]+).*");
    private final Checks checks = new Checks();
    private final FlameBend plate = new FlameBend();
    private final Set<String> shown = new TreeSet<>();

    public static void main(String[] args) throws IOException {
        ReadmeTest test = new ReadmeTest();
        String page = Files.readString(Path.of("README.md"));
        int from = page.indexOf("```java");
        int to = page.indexOf("```", from + 3);
        test.checks.due("there is an example", from >= 0 && to > from ? 1 : 0, 1);
        if (from >= 0 && to > from) {
            page.substring(from, to).lines().forEach(test::line);
        }
        for (Method method : FlameBend.class.getDeclaredMethods()) {
            if (Modifier.isPublic(method.getModifiers())) {
                test.checks.due("README shows " + method.getName(), test.shown.contains(method.getName()) ? 1 : 0, 1);
            }
        }
        test.checks.end("ReadmeTest");
    }

    private void line(String line) {
        Matcher said = SAID.matcher(line);
        Matcher call = CALL.matcher(line);
        if (said.matches()) {
            Checks.say(plate, said.group(1));
        } else if (call.matches()) {
            shown.add(call.group(2));
            String told = call.group(1).replaceFirst("say\\('(.)'\\)", "say $1");
            checks.due("README " + told, Calls.answer(plate, told), Long.parseLong(call.group(3)));
        } else if (line.startsWith("plate.")) {
            checks.due("README tells no answer: " + line, 0, 1);
        }
    }
}
