import java.io.IOException;
import java.io.UncheckedIOException;
import java.nio.charset.StandardCharsets;
import java.nio.file.Files;
import java.nio.file.Path;
import java.util.ArrayList;
import java.util.LinkedHashMap;
import java.util.List;
import java.util.Map;

/** The document's sentences: those of 'Terms' by their paragraph, those of a promise by its number. */
final class Doc {
    private static final List<String> TERMS = List.of("Voices", "Pitch", "Dampers", "Airs", "Cylinder",
            "Arranging", "Playing", "Spring", "The run", "Tunings", "Knowing", "Coins", "Exceptions");
    private static final Map<String, List<String>> SECTIONS = read();

    private Doc() {
    }

    static Map<String, List<String>> sections() {
        return SECTIONS;
    }

    private static Map<String, List<String>> read() {
        Map<String, List<String>> found = new LinkedHashMap<>();
        String heading = "";
        for (String line : lines()) {
            if (line.startsWith("## ")) {
                heading = line.substring(3);
            } else if (heading.equals("Terms")) {
                addTerm(found, line);
            } else if (heading.startsWith("Promise ") && !line.isBlank()) {
                String number = heading.substring(8, heading.indexOf(':'));
                found.computeIfAbsent(number, k -> new ArrayList<>()).add(line);
            }
        }
        return found;
    }

    private static void addTerm(Map<String, List<String>> found, String line) {
        for (String term : TERMS) {
            if (line.startsWith(term + ". ") || line.startsWith(term + " ")) {
                String text = line.startsWith(term + ". ") ? line.substring(term.length() + 2) : line;
                found.put(term, List.of(text.split("(?<=\\.) ")));
            }
        }
    }

    private static List<String> lines() {
        try {
            return Files.readAllLines(Path.of("../shared/DOC.md"), StandardCharsets.UTF_8);
        } catch (IOException e) {
            throw new UncheckedIOException(e);
        }
    }
}
