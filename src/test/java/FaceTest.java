import java.io.IOException;
import java.lang.reflect.Constructor;
import java.lang.reflect.Field;
import java.lang.reflect.Method;
import java.lang.reflect.Modifier;
import java.nio.file.Files;
import java.nio.file.Path;
import java.util.Set;
import java.util.TreeSet;
import java.util.regex.Matcher;
import java.util.regex.Pattern;

/** The class has the document's face, read from the document itself, and nothing more that can be seen. */
public final class FaceTest {
    public static void main(String[] args) throws IOException {
        String doc = Files.readString(Path.of("../shared/DOC.md"));
        int from = doc.indexOf("```java") + "```java".length();
        String face = doc.substring(from, doc.indexOf("```", from));
        Set<String> methods = new TreeSet<>();
        Set<String> constants = new TreeSet<>();
        for (String line : face.split("\n")) {
            String l = line.strip();
            if (l.startsWith("public static final int ")) {
                for (String c : l.substring("public static final int ".length()).replace(";", "").split(",")) {
                    constants.add(c.strip().replace(" ", ""));
                }
            } else if (l.startsWith("public int ")) {
                String name = l.substring("public int ".length(), l.indexOf('('));
                String inside = l.substring(l.indexOf('(') + 1, l.indexOf(')')).strip();
                methods.add(name + "/" + (inside.isEmpty() ? 0 : inside.split(",").length));
            }
        }
        Due.holds("40 methods in the document", methods.size() == 40);
        Due.holds("8 constants in the document", constants.size() == 8);
        compare(methods, constants);
        order(doc);
        Due.end();
    }

    /** What the interface says ahead of calls stands in the class, and behind it those calls, in the document's order. */
    private static void order(String doc) throws IOException {
        StringBuilder want = new StringBuilder();
        Matcher ahead = Pattern.compile("Ahead of the calls (.*) the interface says: (----[^.]*)\\.").matcher(doc);
        while (ahead.find()) {
            want.append(ahead.group(2)).append('\n').append(ahead.group(1).replace("`", "").replace(", ", "\n")).append('\n');
        }
        StringBuilder have = new StringBuilder();
        String code = Files.readString(Path.of("src/main/java/RoofSnow.java"));
        Matcher row = Pattern.compile("(?m)^    (?:// (---- [^:\n]*): promises|public int ([a-zA-Z]+)\\()").matcher(code);
        while (row.find()) {
            have.append(row.group(1) == null ? row.group(2) : row.group(1)).append('\n');
        }
        Due.holds("the calls stand as in the document:\n" + want + "not\n" + have, want.length() > 0 && want.toString().equals(have.toString()));
    }

    private static void compare(Set<String> methods, Set<String> constants) {
        int m = RoofSnow.class.getModifiers();
        Due.holds("public final class", Modifier.isPublic(m) && Modifier.isFinal(m));
        Set<String> haveMethods = new TreeSet<>();
        Set<String> hidden = new TreeSet<>();
        for (Method method : RoofSnow.class.getDeclaredMethods()) {
            if (Modifier.isPrivate(method.getModifiers())) {
                hidden.add(method.getName());
                continue;
            }
            haveMethods.add(method.getName() + "/" + method.getParameterCount());
            Due.holds("public int " + method.getName(), Modifier.isPublic(method.getModifiers())
                && !Modifier.isStatic(method.getModifiers()) && method.getReturnType() == int.class);
            for (Class<?> type : method.getParameterTypes()) {
                Due.holds("int parameters of " + method.getName(), type == int.class);
            }
        }
        Due.holds("the methods are " + methods + ", not " + haveMethods, methods.equals(haveMethods));
        for (String name : hidden) {
            Due.holds("a private method bears a public name: " + name, methods.stream().noneMatch(x -> x.startsWith(name + "/")));
        }
        Set<String> haveConstants = new TreeSet<>();
        for (Field field : RoofSnow.class.getDeclaredFields()) {
            if (!Modifier.isPrivate(field.getModifiers())) {
                try {
                    haveConstants.add(field.getName() + "=" + field.getInt(null));
                } catch (IllegalAccessException e) {
                    haveConstants.add(field.getName() + " can't be read");
                }
            }
        }
        Due.holds("the constants are " + constants + ", not " + haveConstants, constants.equals(haveConstants));
        Constructor<?>[] made = RoofSnow.class.getDeclaredConstructors();
        Due.holds("one public constructor without parameters",
            made.length == 1 && made[0].getParameterCount() == 0 && Modifier.isPublic(made[0].getModifiers()));
    }
}
