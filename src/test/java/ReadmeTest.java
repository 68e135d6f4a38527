import java.io.IOException;
import java.nio.file.Files;
import java.nio.file.Path;
import java.util.Arrays;
import java.util.Set;
import java.util.TreeSet;
import java.util.regex.Matcher;
import java.util.regex.Pattern;
import java.util.stream.Stream;

/** What README.md says holds: its calls answer as it says, its constants are those of the class, its tests are all there. */
public final class ReadmeTest {
    private static final Pattern CALL = Pattern.compile("town\\.([a-zA-Z]+)\\(([^()]*)\\); +// (-?\\d+|[A-Z]+)(?:: .+)?");
    private static final Pattern CONSTANT = Pattern.compile("(?m)^\\| `([A-Z]+)` \\| (-\\d+) \\| .+ \\|$");

    public static void main(String[] args) throws IOException {
        String page = Files.readString(Path.of("README.md"));
        calls(block(page, "java"));
        constants(page);
        commands(block(page, "sh"));
        tests(page);
        Due.end();
    }

    /** All blocks of a language, one behind the other. */
    private static String block(String page, String language) {
        StringBuilder all = new StringBuilder();
        Matcher m = Pattern.compile("(?ms)^```" + language + "\n(.*?)^```$").matcher(page);
        while (m.find()) {
            all.append(m.group(1));
        }
        return all.toString();
    }

    private static void calls(String rows) {
        Calls town = null;
        Set<String> shown = new TreeSet<>();
        for (String row : rows.split("\n")) {
            Matcher call = CALL.matcher(row);
            if (row.equals("RoofSnow town = new RoofSnow();")) {
                town = Calls.ofNewObject();
            } else if (call.matches() && town != null) {
                Due.due("README.md: " + row, town.call(call.group(1), numbers(call.group(2))), number(call.group(3)));
                shown.add(call.group(1));
            } else {
                Due.holds("README.md has a row that is a call or a comment, not: " + row, row.isEmpty() || row.startsWith("// "));
            }
        }
        Due.holds("README.md shows every call, not only " + shown, shown.equals(Calls.METHODS.keySet()));
    }

    private static int[] numbers(String arguments) {
        return Arrays.stream(arguments.split(", ")).filter(a -> !a.isEmpty()).mapToInt(ReadmeTest::number).toArray();
    }

    private static int number(String word) {
        String name = word.replace("RoofSnow.", "");
        return name.matches("[A-Z]+") ? constant(name) : Integer.decode(name);
    }

    private static int constant(String name) {
        try {
            return RoofSnow.class.getField(name).getInt(null);
        } catch (ReflectiveOperationException e) {
            throw new IllegalStateException("README.md names a constant that is none: " + name, e);
        }
    }

    private static void constants(String page) {
        Set<String> told = new TreeSet<>();
        Matcher row = CONSTANT.matcher(page);
        while (row.find()) {
            told.add(row.group(1));
            Due.due("README.md: " + row.group(1), constant(row.group(1)), Integer.parseInt(row.group(2)));
        }
        Set<String> all = new TreeSet<>();
        Arrays.stream(RoofSnow.class.getFields()).forEach(f -> all.add(f.getName()));
        Due.holds("README.md tells all constants, not only " + told, told.equals(all));
    }

    /** .ci/run runs the other lines itself. */
    private static void commands(String lines) {
        Due.holds("README.md has the command .ci/run first", lines.startsWith(".ci/run\n"));
        Due.holds(".ci/run can be run", Files.isExecutable(Path.of(".ci/run")));
    }

    private static void tests(String page) throws IOException {
        Set<String> there = new TreeSet<>();
        try (Stream<Path> files = Files.list(Path.of("src/test/java"))) {
            files.map(f -> f.getFileName().toString()).filter(f -> f.endsWith("Test.java"))
                .forEach(f -> there.add(f.replace(".java", "")));
        }
        Set<String> named = new TreeSet<>();
        Matcher name = Pattern.compile("`([A-Za-z]+Test)`").matcher(page);
        while (name.find()) {
            named.add(name.group(1));
        }
        Due.holds("README.md names the tests " + there + ", not " + named, there.equals(named));
    }
}
