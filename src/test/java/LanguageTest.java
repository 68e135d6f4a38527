import java.io.IOException;
import java.nio.file.Files;
import java.nio.file.Path;
import java.util.List;
import java.util.regex.Matcher;
import java.util.regex.Pattern;

/** The rules of LANGUAGE.md that the text of the class shows by itself; the others are for the eye. */
public final class LanguageTest {
    private static final List<String> BARRED_WORDS = List.of("package", "import", "throw", "throws", "try", "catch", "synchronized",
        "assert", "native", "volatile", "transient", "protected", "goto", "var", "System.out", "System.err", "Object", "NaN");
    private static final List<String> LIBRARY = List.of("Math.min", "Math.max", "Math.abs", "System.arraycopy");

    public static void main(String[] args) throws IOException {
        String all = Files.readString(Path.of("src/main/java/RoofSnow.java"));
        String code = all.replaceAll("(?s)/\\*.*?\\*/", "").replaceAll("//[^\n]*", "")
            .replaceAll("\"[^\"\n]*\"", "\"\"").replaceAll("'[^'\n]'", "' '");
        for (char c : all.toCharArray()) {
            if (c > 126 || c < 32 && c != '\n') {
                Due.holds("plain signs alone, not " + (int) c, false);
            }
        }
        for (String word : BARRED_WORDS) {
            Due.holds("no " + word, !Pattern.compile("(?<![A-Za-z0-9_.])" + Pattern.quote(word) + "(?![A-Za-z0-9_])").matcher(code).find());
        }
        Due.holds("no lambda, no method reference", !code.contains("->") && !code.contains("::"));
        Due.holds("no loop without a bound", !code.contains("while (true)") && !code.contains("for (;;)"));
        Due.holds("no static block", !Pattern.compile("static\\s*\\{").matcher(code).find());
        Matcher library = Pattern.compile("\\b(?:Math|System|Integer|Long|Arrays|List|String)\\.[A-Za-z]+").matcher(code);
        while (library.find()) {
            Due.holds("of the library: " + library.group(), LIBRARY.contains(library.group()));
        }
        Matcher fields = Pattern.compile("(?m)^\\s+(?:public |private )?static (?!final)[^(]*;").matcher(code);
        Due.holds("static fields are final", !fields.find());
        int classes = 0;
        Matcher found = Pattern.compile("(?m)^(.*)\\bclass\\b").matcher(code);
        while (found.find()) {
            classes++;
            Due.holds("classes inside are static", classes == 1 || found.group(1).contains("static"));
        }
        Due.holds("twelve classes at most", classes >= 1 && classes <= 12);
        methods(code);
        Due.end();
    }

    /** Methods begin at 4 or 8 blanks and end with a brace at the same place. */
    private static void methods(String code) {
        String[] lines = code.split("\n");
        Pattern head = Pattern.compile("^(    |        )(?:[A-Za-z\\[\\]]+ )*[A-Za-z]+\\(([^)]*)\\) \\{$");
        int seen = 0;
        for (int i = 0; i < lines.length; i++) {
            Matcher m = head.matcher(lines[i]);
            if (!m.matches() || lines[i].strip().matches("(?:if|for|while|switch|else).*")) {
                continue;
            }
            seen++;
            int end = i;
            while (end < lines.length && !lines[end].equals(m.group(1) + "}")) {
                end++;
            }
            Due.holds("some sixty lines: " + lines[i].strip(), end - i <= 60);
            Due.holds("seven parameters: " + lines[i].strip(), m.group(2).split(",").length <= 7);
            String body = String.join("\n", List.of(lines).subList(i, Math.min(end, lines.length)));
            boolean makes = Pattern.compile("\\bnew\\b").matcher(body).find();
            Due.holds("only a constructor makes objects, not " + lines[i].strip(), !makes || isConstructor(lines[i]));
        }
        Due.holds("the methods were found", seen > 60);
    }

    private static boolean isConstructor(String head) {
        return Pattern.matches(" +(?:public )?[A-Z][A-Za-z]*\\(.*", head);
    }
}
