import java.lang.reflect.Array;
import java.lang.reflect.Field;
import java.lang.reflect.Modifier;
import java.util.ArrayDeque;
import java.util.Collections;
import java.util.Deque;
import java.util.IdentityHashMap;
import java.util.Set;

/** How much of the one room that all calls of a run live in a town takes: no more behind many calls than when it is new. */
public final class RoomTest {
    private static final int MOST_OBJECTS = 120, MOST_PARTS = 3000, ROUNDS = 31;

    private final Set<Object> seen = Collections.newSetFromMap(new IdentityHashMap<>());
    private final Deque<Object> open = new ArrayDeque<>();
    private int parts = 0;

    public static void main(String[] args) throws IllegalAccessException {
        RoofSnow town = new RoofSnow();
        RoomTest before = new RoomTest(town);
        Due.holds("some hundred objects and arrays, not " + before.seen.size(), before.seen.size() <= MOST_OBJECTS);
        Due.holds("less than 3000 fields and elements, not " + before.parts, before.parts <= MOST_PARTS);
        live(town);
        RoomTest behind = new RoomTest(town);
        Due.holds("the same objects behind the calls", behind.seen.equals(before.seen));
        Due.holds("as many fields and elements behind the calls", behind.parts == before.parts);
        Due.end();
    }

    private RoomTest(RoofSnow town) throws IllegalAccessException {
        meet(town);
        while (!open.isEmpty()) {
            Object o = open.pop();
            if (o.getClass().isArray()) {
                elements(o);
            } else {
                fields(o);
            }
        }
    }

    private void meet(Object o) {
        if (o != null && seen.add(o)) {
            open.push(o);
        }
    }

    private void elements(Object array) {
        parts += Array.getLength(array);
        for (int i = 0; i < Array.getLength(array) && !array.getClass().getComponentType().isPrimitive(); i++) {
            meet(Array.get(array, i));
        }
    }

    private void fields(Object o) throws IllegalAccessException {
        for (Field f : o.getClass().getDeclaredFields()) {
            if (!Modifier.isStatic(f.getModifiers())) {
                parts++;
                f.setAccessible(true);
                if (!f.getType().isPrimitive()) {
                    meet(f.get(o));
                }
            }
        }
    }

    /** Calls that could keep something: sixteen a round, no more than 512 in all. */
    private static void live(RoofSnow town) {
        for (int i = 0; i < ROUNDS; i++) {
            town.deal(1);
            town.sky();
            town.run(9);
            town.feed(0x66696e65, 0x20772a32, 0x2b732020);
            town.text();
            town.sheet(i % 4, i % 2, 24);
            town.mark(i % 4, 5, i);
            town.lay(i % 5, 1 + i % 3, 0);
            town.gains(3, 9);
            town.best(0, 9, 0);
            town.explained(i % 4, 0);
            town.tell(i);
            town.tell(i);
            town.keep();
            town.check(3);
            town.back();
        }
        Due.due("count(5) behind the calls", town.count(5), 14);
        Due.due("count(1) behind the calls", town.count(1), ROUNDS * 9);
    }
}
