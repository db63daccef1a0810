import java.io.IOException;
import java.nio.file.Files;
import java.nio.file.Path;
import java.util.ArrayList;
import java.util.HashMap;
import java.util.List;
import java.util.Map;

/**
 * Plays src/test/sentences.txt, which has runs of calls for each sentence of the document, and sees to it that
 * no sentence is left out.
 */
public final class SentenceTest {
    private static final Path RUNS = Path.of("src/test/sentences.txt");
    private static final Path DOCUMENT = Path.of("../shared/DOC.md");

    private final Map<String, String> lets = new HashMap<>();
    private final List<Sentences.Sentence> quoted = new ArrayList<>();
    private String section = "";
    private boolean needsRun = false;
    private Script object = null;

    public static void main(String[] arguments) throws IOException {
        SentenceTest test = new SentenceTest();
        int number = 0;
        for (String line : Files.readAllLines(RUNS)) {
            number++;
            test.read(line, number);
        }
        test.endSentence();
        test.compareWithDocument();
        Due.end();
    }

    private void read(String line, int number) {
        if (line.startsWith("let ")) {
            String[] parts = line.substring(4).split(": ", 2);
            lets.put(parts[0], expand(parts[1]));
        } else if (line.startsWith("## ")) {
            section = line.substring(3);
        } else if (line.startsWith("> ") || line.startsWith("-- ")) {
            endSentence();
            quote(line.substring(line.indexOf(' ') + 1));
            needsRun = line.startsWith("> ");
        } else if (!line.isBlank() && !line.startsWith("#")) {
            play(line, "sentences.txt:" + number);
        }
    }

    private void quote(String sentence) {
        quoted.add(new Sentences.Sentence(section, sentence));
        object = null;
    }

    private void endSentence() {
        if (needsRun) {
            Due.holds("there are runs for: " + quoted.get(quoted.size() - 1), false);
        }
    }

    private void play(String line, String title) {
        String calls = expand(line);
        if (line.startsWith(" ") && object != null) {
            object.as(title).then(calls);
        } else {
            object = Script.play(title, calls);
        }
        needsRun = false;
    }

    private String expand(String calls) {
        String expanded = calls;
        for (Map.Entry<String, String> let : lets.entrySet()) {
            expanded = expanded.replace("{" + let.getKey() + "}", let.getValue());
        }
        return expanded;
    }

    private void compareWithDocument() throws IOException {
        List<Sentences.Sentence> due = Sentences.of(DOCUMENT);
        for (Sentences.Sentence sentence : due) {
            Due.holds("sentences.txt quotes: " + sentence, quoted.contains(sentence));
        }
        for (Sentences.Sentence sentence : quoted) {
            Due.holds("the document says: " + sentence, due.contains(sentence));
        }
        Due.is("sentences", due.size(), quoted.size());
    }
}
