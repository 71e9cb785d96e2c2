import java.io.IOException;
import java.nio.file.Files;
import java.nio.file.Path;
import java.util.ArrayList;
import java.util.HashSet;
import java.util.LinkedHashMap;
import java.util.List;
import java.util.Map;
import java.util.Set;

/** The sentences of ../shared/DOC.md, section by section, and which of them have been quoted. */
final class Document {
    private static final Path PLACE = Path.of("../shared/DOC.md");

    private final Map<String, List<String>> paragraphs = new LinkedHashMap<>();
    private final Map<String, Set<String>> quotes = new LinkedHashMap<>();

    static Document read() throws IOException {
        Document document = new Document();
        for (String part : Files.readString(PLACE).split("\n## ")) {
            int end = part.indexOf('\n');
            String title = part.substring(0, end);
            String name = title.startsWith("Promise ") ? title.substring(0, title.indexOf(':')) : title;
            document.paragraphs.put(name, paragraphsOf(part.substring(end)));
            document.quotes.put(name, new HashSet<>());
        }
        return document;
    }

    /** Lines that are only wrapped are joined; each item of a list is a paragraph. ExamplesTest has the examples. */
    private static List<String> paragraphsOf(String body) {
        List<String> found = new ArrayList<>();
        for (String paragraph : body.split("\n\n+|\n(?=- )|\n(?=  [0-9])")) {
            String words = paragraph.replaceAll("\\s+", " ").replaceFirst("^\\s*- ", "").trim();
            if (words.startsWith("Examples:")) {
                return found;
            }
            boolean isHead = words.startsWith("----") || words.matches("`[^`]*`|[A-Z][a-z ]*|");
            if (!isHead) {
                found.add(words);
            }
        }
        return found;
    }

    /** Notes that words of a section are quoted; whether they stand there, in one paragraph. */
    boolean quote(String section, String words) {
        quotes.get(section).add(words);
        for (String paragraph : paragraphs.get(section)) {
            if (paragraph.contains(words)) {
                return true;
            }
        }
        return false;
    }

    /** The sentences of a section, and the clauses between semicolons, of which nothing has been quoted. */
    List<String> notQuoted(String section) {
        List<String> left = new ArrayList<>();
        for (String paragraph : paragraphs.get(section)) {
            for (String clause : paragraph.split("(?<=[.;])\\s+(?=\\S)")) {
                if (!isQuoted(section, clause.replaceFirst("[.;]$", ""))) {
                    left.add(clause);
                }
            }
        }
        return left;
    }

    private boolean isQuoted(String section, String clause) {
        for (String words : quotes.get(section)) {
            if (words.contains(clause) || clause.contains(words)) {
                return true;
            }
        }
        return false;
    }
}
