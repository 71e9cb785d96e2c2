import java.io.IOException;
import java.nio.file.Files;
import java.nio.file.Path;
import java.util.ArrayList;
import java.util.Arrays;
import java.util.HashSet;
import java.util.LinkedHashMap;
import java.util.List;
import java.util.Map;
import java.util.Set;
import java.util.regex.Matcher;
import java.util.regex.Pattern;

/** A document under ../shared, section by section, and which words of it have been quoted. */
final class Document {
    private static final Path SHARED = Path.of("../shared");

    private final Map<String, String> bodies = new LinkedHashMap<>();
    private final Map<String, Set<String>> quotes = new LinkedHashMap<>();

    /** DOC.md: the text before its first section stands under its title. */
    static Document ofTheClass() throws IOException {
        Document document = new Document();
        for (String part : Files.readString(SHARED.resolve("DOC.md")).split("\n## ")) {
            int end = part.indexOf('\n');
            String title = part.substring(0, end).replaceFirst("^# ", "");
            document.add(title.startsWith("Promise ") ? title.substring(0, title.indexOf(':')) : title,
                part.substring(end));
        }
        return document;
    }

    /** LANGUAGE.md: each rule is a section, and so is the text before the first one. */
    static Document ofTheLanguage() throws IOException {
        Document document = new Document();
        String[] parts = Files.readString(SHARED.resolve("LANGUAGE.md")).split("\n(?=[0-9]+\\. )");
        document.add("Head", parts[0].substring(parts[0].indexOf('\n')));
        for (int i = 1; i < parts.length; i++) {
            int dot = parts[i].indexOf('.');
            document.add("Rule " + parts[i].substring(0, dot), parts[i].substring(dot + 1));
        }
        return document;
    }

    private void add(String section, String body) {
        bodies.put(section, body);
        quotes.put(section, new HashSet<>());
    }

    Set<String> sections() {
        return bodies.keySet();
    }

    String body(String section) {
        return bodies.get(section);
    }

    /** The calls of an example, with the results that are due. */
    String example(int number) {
        String words = oneLine(body("Description"));
        Matcher matcher = Pattern.compile("(?<= )" + number + "\\. [^()]*: (\\w+\\([^.]*)\\.(?= |$)").matcher(words);
        return matcher.find(words.indexOf("Examples:")) ? matcher.group(1) : "";
    }

    /** The lines of the class in 'The public face', each without its semicolon, and the same words behind a promise. */
    List<String> face() {
        List<String> lines = new ArrayList<>();
        for (String line : body("The public face").split("\n")) {
            if (line.startsWith("    public ")) {
                lines.add(line.trim().replaceFirst(";$", ""));
            }
        }
        return lines;
    }

    /** The signature that stands at the head of a promise. */
    String signature(int promise) {
        Matcher matcher = Pattern.compile("^\\s*`([^`]*)`").matcher(body("Promise " + promise));
        return matcher.find() ? matcher.group(1) : "";
    }

    private static String oneLine(String words) {
        return words.replaceAll("\\s+", " ").trim();
    }

    /** Lines that are only wrapped are joined; each item of a list is a paragraph. Others read examples and code. */
    private List<String> paragraphs(String section) {
        List<String> found = new ArrayList<>();
        for (String paragraph : body(section).split("\n\n+|\n(?= *- )|\n(?=  [0-9])")) {
            String words = oneLine(paragraph).replaceFirst("^- ", "");
            boolean isHead = words.startsWith("----") || words.matches("`[^`]*`|[A-Z][a-z ]*|");
            if (!isHead && !words.startsWith("Examples:") && !words.startsWith("```")) {
                found.add(words);
            }
        }
        return found;
    }

    /** Notes that words of a section are quoted; whether they stand there, in one paragraph. */
    boolean quote(String section, String words) {
        quotes.get(section).add(words);
        for (String paragraph : paragraphs(section)) {
            if (paragraph.contains(words)) {
                return true;
            }
        }
        return false;
    }

    /** The stretches of a section of which no quote has the words. */
    List<String> notQuoted(String section) {
        List<String> left = new ArrayList<>();
        for (String paragraph : paragraphs(section)) {
            boolean[] quoted = new boolean[paragraph.length()];
            for (String words : quotes.get(section)) {
                markAll(paragraph, words, quoted);
            }
            addStretches(paragraph, quoted, left);
        }
        return left;
    }

    private static void markAll(String paragraph, String words, boolean[] quoted) {
        for (int at = paragraph.indexOf(words); at >= 0; at = paragraph.indexOf(words, at + 1)) {
            Arrays.fill(quoted, at, at + words.length(), true);
        }
    }

    /** Of signs without a letter or a digit, nothing need be quoted. */
    private static void addStretches(String paragraph, boolean[] quoted, List<String> left) {
        int begin = 0;
        for (int i = 0; i <= quoted.length; i++) {
            if (i == quoted.length || quoted[i]) {
                String stretch = paragraph.substring(begin, i);
                if (stretch.matches(".*[A-Za-z0-9].*")) {
                    left.add(stretch.trim());
                }
                begin = i + 1;
            }
        }
    }
}
