import java.io.IOException;
import java.nio.file.Files;
import java.nio.file.Path;
import java.util.LinkedHashMap;
import java.util.Map;
import java.util.regex.Matcher;
import java.util.regex.Pattern;

/** Every sentence of the document that names a boundary case has runs of its own; each is looked up in the document, too. */
public final class FuseMinutesEdges {
    private static final Path DOCUMENT = Path.of("../shared/DOC.md");
    private static int wrong = 0;

    public static void main(String[] args) throws IOException {
        Edges edges = new Edges();
        new EdgesOfTerms(edges).all();
        new EdgesOfTexts(edges).all();
        new EdgesOfAsks(edges).all();
        new EdgesOfPromises(edges).all();
        wrong = edges.wrong();
        lookUp(edges);
        System.out.println(wrong == 0 ? edges.sentences().size() + " sentences hold" : wrong + " answers are not as due");
        if (wrong != 0) System.exit(1);
    }

    private static void lookUp(Edges edges) throws IOException {
        Map<String, StringBuilder> open = parts(Files.readString(DOCUMENT));
        Map<String, String> whole = new LinkedHashMap<>();
        open.forEach((place, text) -> whole.put(place, text.toString()));
        for (int i = 0; i < edges.sentences().size(); i++) {
            String place = edges.places().get(i);
            String sentence = edges.sentences().get(i);
            int at = whole.getOrDefault(place, "").indexOf(sentence);
            if (at < 0) {
                wrong++;
                System.out.println(place + " has no '" + sentence + "'");
            } else {
                for (int k = at; k < at + sentence.length(); k++) open.get(place).setCharAt(k, '_');
            }
        }
        open.forEach(FuseMinutesEdges::lookForUntested);
    }

    /** What no quoted sentence has. */
    private static void lookForUntested(String place, StringBuilder text) {
        for (String left : text.toString().split("_+")) {
            if (left.matches(".*[A-Za-z0-9].*")) {
                wrong++;
                System.out.println("without a test in " + place + ": '" + left.trim() + "'");
            }
        }
    }

    /** Terms, II to V, and the promises by their numbers; blanks folded, without the calls' own lines. */
    private static Map<String, StringBuilder> parts(String document) {
        String flat = document.replaceAll("```(text)?", " ").replaceAll("\\s+", " ");
        Map<String, StringBuilder> parts = new LinkedHashMap<>();
        put(parts, "Calls", flat, "==== I\\.", "## The public face");
        put(parts, "Terms", flat, "## Terms", "==== II\\.");
        put(parts, "II", flat, "==== II\\.", "==== III\\.");
        put(parts, "III", flat, "==== III\\.", "==== IV\\.");
        put(parts, "IV", flat, "==== IV\\.", "==== V\\.");
        put(parts, "V", flat, "==== V\\.", "The constants");
        for (int i = 1; i <= 49; i++) put(parts, Integer.toString(i), flat, "## Promise " + i + ": \\w[\\w ]* `[^`]*`:", "## ");
        return parts;
    }

    private static void put(Map<String, StringBuilder> parts, String place, String flat, String from, String to) {
        Matcher m = Pattern.compile(from + "(.*?)" + to).matcher(flat);
        parts.put(place, new StringBuilder(m.find() ? m.group(1) : ""));
    }
}
