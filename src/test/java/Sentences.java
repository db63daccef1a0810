import java.io.IOException;
import java.nio.file.Files;
import java.nio.file.Path;
import java.util.ArrayList;
import java.util.List;

/** Cuts the document into its sentences: those of "Types" to "History and errors", and of the promises. */
final class Sentences {
    /** A sentence, and the section that it stands in. */
    record Sentence(String section, String text) {
    }

    private final List<Sentence> found = new ArrayList<>();
    private String section = "";

    private Sentences() {
    }

    static List<Sentence> of(Path document) throws IOException {
        Sentences sentences = new Sentences();
        for (String line : Files.readAllLines(document)) {
            sentences.read(line);
        }
        return sentences.found;
    }

    private void read(String line) {
        if (line.startsWith("#")) {
            section = line.replaceFirst("#+ ", "");
        } else if (isTold(line)) {
            for (String text : line.split(separator(line))) {
                found.add(new Sentence(section, text));
            }
        }
    }

    /** The examples have a test of their own, and the signatures FaceTest. */
    private boolean isTold(String line) {
        boolean promise = section.startsWith("Promise");
        boolean described = section.matches("Types|Methods|Calls|Changes|History and errors");
        boolean example = line.startsWith("Examples:") || line.matches("\\d\\. .*");
        boolean frame = promise && (line.startsWith("`") || line.startsWith("----"));
        return (promise || described) && !line.isBlank() && !example && !frame;
    }

    /** A line of a list is one sentence, whatever is in it; of what is returned, each answer is one. */
    private String separator(String line) {
        if (line.startsWith("- ")) {
            return "\n";
        }
        return section.startsWith("Promise") && line.startsWith("Returns") ? "; " : "(?<=[.])\\s+";
    }
}
