import java.io.IOException;
import java.nio.file.Files;
import java.nio.file.Path;
import java.util.List;
import java.util.regex.Matcher;
import java.util.regex.Pattern;

/** README.md names every call, and its example answers as it says; second argument: README.md. */
public final class ReadmeTests {
    private static final Pattern CALL =
            Pattern.compile("x\\.(\\w+)\\((.*?)\\); +// (throws \\w+|[^ :]+)(: .*)?");

    private Thicket x = new Thicket();

    public static void main(String[] args) throws IOException {
        List<String> readme = Files.readAllLines(Path.of(args[1]));
        String text = String.join("\n", readme);
        for (String name : Calls.NAMES) {
            Checks.same("README.md names " + name, "true",
                    String.valueOf(text.contains("`" + name + "`")));
        }
        int begin = readme.indexOf("```java") + 1;
        int lines = readme.subList(begin, readme.size()).indexOf("```");
        boolean hasExample = begin > 0 && lines > 0;
        Checks.same("README.md has an example", "true", String.valueOf(hasExample));
        if (hasExample) {
            new ReadmeTests().play(readme.subList(begin, begin + lines));
        }
        Checks.finish("ReadmeTests");
    }

    private void play(List<String> example) {
        for (String line : example) {
            if (line.equals("Thicket x = new Thicket();")) {
                x = new Thicket();
            } else if (!line.isEmpty() && !line.startsWith("//")) {
                answersAsItSays(line);
            }
        }
    }

    private void answersAsItSays(String line) {
        Matcher call = CALL.matcher(line);
        boolean isCall = call.matches() && Calls.NAMES.contains(call.group(1));
        Checks.same(line + " is a call with its answer", "true", String.valueOf(isCall));
        if (isCall) {
            String got = Calls.answer(x, call.group(1), numbersIn(call.group(2)));
            // An exception stands there without its package, as a program would write it.
            Checks.same(line, call.group(3), got.replaceFirst("^throws .*\\.", "throws "));
        }
    }

    private static int[] numbersIn(String arguments) {
        if (arguments.isEmpty()) {
            return new int[0];
        }
        String[] parts = arguments.split(", ");
        int[] numbers = new int[parts.length];
        for (int i = 0; i < parts.length; i++) {
            numbers[i] = Integer.parseInt(parts[i]);
        }
        return numbers;
    }
}
