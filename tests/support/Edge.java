import java.util.ArrayList;
import java.util.List;
import java.util.Map;
import java.util.Set;
import java.util.TreeSet;

/** Ties each test of an edge to the sentence of the document that names it. */
final class Edge {
    private static final Set<String> TESTED = new TreeSet<>();

    private Edge() {
    }

    /** Makes the test of the one sentence of this section that begins with these words, or else has them. */
    static void of(String section, String words, Check.Call test) {
        List<String> found = new ArrayList<>();
        for (String sentence : Doc.sections().getOrDefault(section, List.of())) {
            if (sentence.startsWith(words)) {
                found.add(sentence);
            }
        }
        for (String sentence : Doc.sections().getOrDefault(section, List.of())) {
            if (found.isEmpty() && sentence.contains(words)) {
                found.add(sentence);
            }
        }
        Check.same("sentences in " + section + " with: " + words, found.size(), 1);
        found.forEach(sentence -> TESTED.add(section + ": " + sentence));
        Check.about(section + ", " + words + ": ");
        test.make();
        Check.about("");
    }

    /** Tells each sentence that may name an edge and has no test. */
    static void complete() {
        Check.same("sections of the document", Doc.sections().size(), 13 + 44);
        for (Map.Entry<String, List<String>> section : Doc.sections().entrySet()) {
            boolean isTerm = !Character.isDigit(section.getKey().charAt(0));
            for (String sentence : section.getValue()) {
                if (isTerm || namesAnEdge(sentence)) {
                    String full = section.getKey() + ": " + sentence;
                    Check.yes("there is a test of '" + full + "'", TESTED.contains(full));
                }
            }
        }
    }

    private static boolean namesAnEdge(String line) {
        return line.startsWith("Returns") || line.startsWith("Throws")
                || line.startsWith("- ") && line.matches(".*: .*([0-9'].*|any number|without the lean|of the comb)");
    }
}
