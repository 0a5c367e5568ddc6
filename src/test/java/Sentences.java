import java.io.IOException;
import java.nio.file.Files;
import java.nio.file.Path;
import java.util.regex.Matcher;
import java.util.regex.Pattern;

/** The document by its sentences: which of them the tests name, and which edges none of them names. */
final class Sentences {
    /** What tells an edge by its signs alone: a range, or a number that a call answers instead. */
    private static final Pattern EDGE = Pattern.compile("[0-9]+ \\.\\. [0-9]+|-[0-9]+|at first|at most");

    private final String doc;
    private final boolean[] isNamed;

    Sentences(Path path) throws IOException {
        doc = Files.readString(path);
        isNamed = new boolean[doc.length()];
    }

    /** What is due from here on is due by this sentence, which stands under this heading. */
    void name(String heading, String sentence) {
        Due.by(heading + ", \"" + sentence + "\"");
        int from = doc.indexOf("\n## " + heading + "\n") + 1;
        int at = doc.indexOf(sentence, from);
        boolean stands = from > 0 && at >= 0 && at < endOf(from);
        Due.due("whether it stands in the document", stands ? 1 : 0, 1);
        for (int i = at; stands && i < at + sentence.length(); i++) {
            isNamed[i] = true;
        }
    }

    private int endOf(int from) {
        int next = doc.indexOf("\n## ", from);
        return next < 0 ? doc.length() : next;
    }

    /** Each edge that can be seen by its signs has been named. */
    void dueAll() {
        Matcher edge = EDGE.matcher(doc);
        while (edge.find()) {
            int line = doc.lastIndexOf('\n', edge.start()) + 1;
            Due.by(doc.substring(Math.max(line, edge.start() - 30), edge.end()));
            Due.due("whether a test names it", isNamed[edge.start()] ? 1 : 0, 1);
        }
    }
}
