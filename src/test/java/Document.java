import java.io.IOException;
import java.io.UncheckedIOException;
import java.nio.file.Files;
import java.nio.file.Path;
import java.util.Map;
import java.util.TreeMap;
import java.util.regex.Matcher;
import java.util.regex.Pattern;

/** The document by sections, and which of its words some test stands for. */
final class Document {
    private static final Map<String, String> SECTIONS = read();
    private static final Map<String, boolean[]> QUOTED = new TreeMap<>();

    private Document() {
    }

    /** A run of calls on a new object that shows where these words of a section begin and end to hold. */
    static Script says(String section, String words) {
        String text = SECTIONS.getOrDefault(section, "");
        boolean[] quoted = QUOTED.computeIfAbsent(section, s -> new boolean[text.length()]);
        int at = text.indexOf(words);
        Due.holds(section + " of the document says \"" + words + "\"", at >= 0 && !words.isEmpty());
        while (at >= 0) {
            java.util.Arrays.fill(quoted, at, at + words.length(), true);
            at = text.indexOf(words, at + words.length());
        }
        return new Script(section + ", \"" + words + "\"");
    }

    static Script term(int part, String words) {
        return says("Terms " + part, words);
    }

    static Script promise(int number, String words) {
        return says("Promise " + number, words);
    }

    /** What no test stands for would be told here. */
    static void everySentenceIsQuoted() {
        Due.holds("five parts of Terms, what stands ahead of them, 41 promises, the number of calls", SECTIONS.size() == 48);
        for (Map.Entry<String, String> section : SECTIONS.entrySet()) {
            String left = left(section.getValue(), QUOTED.get(section.getKey()));
            Due.holds(section.getKey() + ": no test quotes" + left, left.isEmpty());
        }
    }

    private static String left(String text, boolean[] quoted) {
        StringBuilder left = new StringBuilder();
        for (int i = 0; i < text.length(); i++) {
            boolean open = (quoted == null || !quoted[i]) && text.charAt(i) != ' ';
            if (open) {
                boolean first = i == 0 || quoted != null && quoted[i - 1] || text.charAt(i - 1) == ' ';
                left.append(first ? " " : "").append(text.charAt(i));
            }
        }
        return left.toString();
    }

    private static Map<String, String> read() {
        String all;
        try {
            all = Files.readString(Path.of("../shared/DOC.md"));
        } catch (IOException e) {
            throw new UncheckedIOException(e);
        }
        String plain = all.replaceAll("```text|```(?!java)", " ").replaceAll("\\s+", " ");
        Map<String, String> sections = new TreeMap<>();
        sections.put("What it is", between(plain, "gone on from. ", "## The public face"));
        String terms = between(plain, "## Terms ", "Ahead of the calls");
        String[] parts = terms.split("======== \\d ");
        sections.put("Terms", parts[0].strip());
        for (int i = 1; i < parts.length; i++) {
            sections.put("Terms " + i, parts[i].strip());
        }
        Matcher m = Pattern.compile("## Promise (\\d+): \\w+(?: \\w+)* `[^`]*`: (.*?)(?= ## )").matcher(plain);
        while (m.find()) {
            sections.put("Promise " + m.group(1), m.group(2).strip());
        }
        return sections;
    }

    private static String between(String text, String from, String to) {
        int at = text.indexOf(from);
        int end = text.indexOf(to, at);
        return at < 0 || end < 0 ? "" : text.substring(at + from.length(), end).strip();
    }
}
