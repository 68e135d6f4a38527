import java.lang.reflect.Method;
import java.lang.reflect.Modifier;
import java.util.ArrayList;
import java.util.Arrays;
import java.util.List;
import java.util.Map;
import java.util.TreeMap;

/** Something that answers the document's calls by their names: the class itself, or the model. */
interface Calls {
    Map<String, Method> METHODS = methods();

    int call(String name, int... arguments);

    static Calls ofNewObject() {
        RoofSnow object = new RoofSnow();
        return (name, arguments) -> {
            Object[] boxed = Arrays.stream(arguments).boxed().toArray();
            try {
                return (Integer) METHODS.get(name).invoke(object, boxed);
            } catch (ReflectiveOperationException e) {
                throw new IllegalStateException(name + Arrays.toString(arguments) + " threw " + e.getCause(), e);
            }
        };
    }

    static Calls ofNewModel() {
        return new Model()::answer;
    }

    private static Map<String, Method> methods() {
        Map<String, Method> found = new TreeMap<>();
        for (Method m : RoofSnow.class.getDeclaredMethods()) {
            if (Modifier.isPublic(m.getModifiers())) {
                found.put(m.getName(), m);
            }
        }
        return found;
    }

    /** The arguments of the calls of feed that bring these bytes to the tape, with blanks behind them. */
    static List<int[]> fed(String bytes) {
        List<int[]> all = new ArrayList<>();
        for (int i = 0; i < bytes.length(); i += 12) {
            int[] p = new int[3];
            for (int j = 0; j < 12; j++) {
                p[j / 4] = p[j / 4] << 8 | (i + j < bytes.length() ? bytes.charAt(i + j) : ' ');
            }
            all.add(p);
        }
        return all;
    }
}
