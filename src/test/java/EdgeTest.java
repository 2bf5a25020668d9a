import java.io.IOException;
import java.nio.file.Files;
import java.nio.file.Path;

/**
 * Each sentence of the document that names a boundary case, by a check of its own. With the
 * document's path as an argument it also tells which words of the promises no check quotes.
 */
final class EdgeTest {
    private EdgeTest() {
    }

    public static void main(String[] args) throws IOException {
        Edges e = new Edges();
        EdgeHouse.check(e);
        EdgeText.check(e);
        EdgeChange.check(e);
        EdgeNight.check(e);
        EdgeSeating.check(e);
        EdgeMissed.check(e);
        EdgeSeen.check(e);
        EdgeSheet.check(e);
        EdgeRefused.check(e);
        if (args.length > 0) {
            quotes(e, Files.readString(Path.of(args[0])));
        }
        e.close();
    }

    /** Which quotes are not in the document, and which of its words stand in no quote. */
    private static void quotes(Edges e, String document) {
        String[] parts = document.replaceAll("```text|```|======== \\d", "").split("## Promise ");
        for (int promise = 0; promise < parts.length; promise++) {
            String text = parts[promise].replaceAll("\\s+", " ");
            int from = promise == 0 ? text.indexOf("Answers: BAD") : text.indexOf("`: ") + 3;
            int to = promise == 0 ? text.indexOf("Ahead of the calls") : text.length();
            to = text.contains("## Not promised") ? text.indexOf("## Not promised") : to;
            char[] left = text.substring(from, to).toCharArray();
            for (Edges.Sentence s : e.sentences()) {
                int at = s.promise == promise ? text.indexOf(s.words) : 0;
                if (at < 0) {
                    System.out.println("promise " + promise + " does not say '" + s.words + "'");
                }
                for (int n = 0; s.promise == promise && n < s.words.length(); n++) {
                    if (at + n >= from && at + n < to) {
                        left[at + n - from] = ' ';
                    }
                }
            }
            String unsaid = new String(left).replaceAll("[\\s.,:;|`=]+", " ").strip();
            if (!unsaid.isEmpty()) {
                System.out.println("promise " + promise + ", in no quote: " + unsaid);
            }
        }
    }
}
