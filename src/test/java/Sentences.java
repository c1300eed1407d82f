import java.io.IOException;
import java.nio.file.Files;
import java.nio.file.Path;
import java.util.ArrayList;
import java.util.HashSet;
import java.util.LinkedHashMap;
import java.util.List;
import java.util.Map;
import java.util.Set;

/** The document's sentences: each boundary is tested under the very words that draw it. */
final class Sentences {
    private final Map<String, List<String>> sections = new LinkedHashMap<>();
    private final Set<String> tested = new HashSet<>();

    Sentences(String file) throws IOException {
        String section = "";
        for (String line : Files.readAllLines(Path.of(file))) {
            if (line.startsWith("## ")) {
                section = line.substring(3).split(":")[0];
            } else {
                sections.computeIfAbsent(section, name -> new ArrayList<>()).add(line.trim());
            }
        }
    }

    /** The words may stand anywhere in the section, over several lines too. */
    void says(String section, String words, Runnable checks) {
        String text = String.join(" ", sections.getOrDefault(section, List.of()));
        Checks.same(section + " says \"" + words + "\"", "true",
                String.valueOf(text.contains(words)));
        tested.add(section + ": " + words);
        Checks.about(section + ", \"" + words + "\"", checks);
    }

    void refuses(int promise, Class<? extends RuntimeException> with, String when,
            Runnable checks) {
        says("Promise " + promise, "Throws `" + with.getSimpleName() + "` " + when, checks);
    }

    void everyRefusalIsTested(int firstPromise, int lastPromise) {
        for (int promise = firstPromise; promise <= lastPromise; promise++) {
            String section = "Promise " + promise;
            Checks.same(section + " is in the document", "true",
                    String.valueOf(sections.containsKey(section)));
            for (String line : sections.getOrDefault(section, List.of())) {
                if (line.startsWith("Throws ")) {
                    Checks.same(section + ", a test of: " + line, "true",
                            String.valueOf(tested.contains(section + ": " + line)));
                }
            }
        }
    }
}
