import java.io.IOException;
import java.nio.file.Files;
import java.nio.file.Path;
import java.util.ArrayList;
import java.util.List;
import java.util.stream.Stream;

/**
 * Prints each sentence of the document that no test quotes. It is no test: a document that is
 * written anew is no fault of the program.
 */
public final class Sentences {
    private static final Path TESTS = Path.of("src/test/java");

    /** A few words and a full stop, such as "Springs.", are a heading; what orders the face is no answer. */
    private static boolean saysNothing(String sentence) {
        return !sentence.contains(" ") || sentence.equals("The score.") || sentence.startsWith("Ahead of the calls ");
    }

    private static String lettersOf(String text) {
        return text.toLowerCase().replaceAll("[^a-z0-9]", "");
    }

    private static List<String> sentencesOf(List<String> lines) {
        List<String> found = new ArrayList<>();
        String promise = "";
        boolean code = false;
        for (String line : lines) {
            if (line.startsWith("## Not promised")) {
                break;
            }
            code ^= line.startsWith("```");
            if (line.startsWith("## Promise ")) {
                promise = line.replaceAll("## Promise ([0-9]+):.*", "$1, ");
            } else if (line.startsWith("## ")) {
                promise = "";
            } else if (!code && !line.isBlank() && !line.startsWith("#") && !line.startsWith("- ") && !line.startsWith("```")) {
                addSentences(found, promise, line);
            }
        }
        return found;
    }

    private static void addSentences(List<String> found, String promise, String line) {
        if (!promise.isEmpty()) {
            // What stands ahead of the colon is the call's line of the face.
            found.add("says(" + promise + line.replaceFirst("^`(int [a-zA-Z]+|Stavehouse)\\(.*?`: ", ""));
            return;
        }
        for (String sentence : line.split("(?<=[.]) (?=[A-Z])")) {
            if (!saysNothing(sentence)) {
                found.add(sentence);
            }
        }
    }

    private static String textOfTests() throws IOException {
        StringBuilder text = new StringBuilder();
        try (Stream<Path> files = Files.list(TESTS)) {
            for (Path file : files.sorted().toList()) {
                text.append(lettersOf(Files.readString(file)));
            }
        }
        return text.toString();
    }

    public static void main(String[] args) throws IOException {
        String tests = textOfTests();
        int without = 0;
        List<String> sentences = sentencesOf(Files.readAllLines(Path.of(args.length > 0 ? args[0] : "../shared/DOC.md")));
        for (String sentence : sentences) {
            if (!tests.contains(lettersOf(sentence))) {
                System.out.println("no test quotes: " + sentence);
                without++;
            }
        }
        System.out.println(sentences.size() + " sentences, " + without + " without a test");
    }
}
