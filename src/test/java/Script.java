import java.lang.reflect.Method;
import java.util.Map;
import java.util.TreeMap;

/** Calls on one new object, told in rows such as "roof 0 5 = 0"; a constant may stand for its number. */
final class Script {
    private final RoofSnow object = new RoofSnow();
    private final Map<String, Method> methods = new TreeMap<>();
    private final String title;

    Script(String title) {
        this.title = title;
        for (Method m : RoofSnow.class.getMethods()) {
            if (m.getDeclaringClass() == RoofSnow.class) {
                methods.put(m.getName(), m);
            }
        }
    }

    Script say(String... rows) {
        for (String row : rows) {
            String[] sides = row.split(" = ");
            String[] words = sides[0].strip().split(" +");
            Object[] arguments = new Object[words.length - 1];
            for (int i = 1; i < words.length; i++) {
                arguments[i - 1] = number(words[i]);
            }
            Due.due(title + ": " + sides[0], call(words[0], arguments), number(sides[1].strip()));
        }
        return this;
    }

    /** The tape becomes these bytes, whatever it was. */
    Script feeds(String bytes) {
        call("trim", 0);
        for (int i = 0; i < bytes.length(); i += 12) {
            Object[] p = new Object[3];
            for (int j = 0; j < 3; j++) {
                int word = 0;
                for (int k = 0; k < 4; k++) {
                    int at = i + 4 * j + k;
                    word = word << 8 | (at < bytes.length() ? bytes.charAt(at) : ' ');
                }
                p[j] = word;
            }
            call("feed", p);
        }
        Due.due(title + ": trim behind feeds", call("trim", bytes.length()), bytes.length());
        return this;
    }

    /** These bytes are read as a text. */
    Script reads(String bytes, int due) {
        feeds(bytes);
        Due.due(title + ": text() of \"" + bytes + "\"", call("text"), due);
        return this;
    }

    int call(String name, Object... arguments) {
        try {
            return (Integer) methods.get(name).invoke(object, arguments);
        } catch (ReflectiveOperationException e) {
            throw new IllegalStateException(title + ": " + name, e);
        }
    }

    private static int number(String word) {
        switch (word) {
            case "BAD": return RoofSnow.BAD;
            case "NO": return RoofSnow.NO;
            case "FULL": return RoofSnow.FULL;
            case "NONE": return RoofSnow.NONE;
            case "NOTHING": return RoofSnow.NOTHING;
            case "KIND": return RoofSnow.KIND;
            case "INDEX": return RoofSnow.INDEX;
            case "SIZE": return RoofSnow.SIZE;
            case "MIN": return Integer.MIN_VALUE;
            case "MAX": return Integer.MAX_VALUE;
            default: return Integer.parseInt(word);
        }
    }
}
