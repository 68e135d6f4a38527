import java.util.ArrayList;
import java.util.Arrays;
import java.util.List;
import java.util.Set;

/**
 * Every call with all its arguments at and around their bounds, each with each, in towns that are new, busy, full and late:
 * the answer, and all that can be seen behind it, against the model's.
 */
public final class EdgesTest {
    private static final int MIN = Integer.MIN_VALUE, MAX = Integer.MAX_VALUE, NONE = RoofSnow.NONE;
    private static final int MOST_AT_ONCE = 60, MOST_CALLS = 512;
    private static final int[] ROOF = {MIN, -1, 0, 1, 3, 4, 7, 8, MAX}, KIND = {MIN, -1, 0, 1, 2, 3, 4, 5, 6, MAX};
    private static final int[] SHEET = {-1, 0, 1, 2, 3, 4}, SLOT = {MIN, -1, 0, 1, 2, 3, 4, 5, MAX}, PLACE = {-1, 0, 1, 2, 3, 24};
    /** Calls that only ask: none of them changes anything, whatever it answers. */
    private static final Set<String> ASKING = Set.of("told", "as", "kilos", "behind", "best", "leastRoom", "slide", "gains", "explained",
        "fine", "textTold", "why", "reads", "ask", "item", "rest", "count");
    /** Two that use up the tape or the numbers that wait, even if they are refused, and one that is never refused. */
    private static final Set<String> CHANGING = Set.of("text", "check", "seed");

    private final String title;
    private final List<String> names = new ArrayList<>();
    private final List<int[]> arguments = new ArrayList<>();

    private EdgesTest(String title) {
        this.title = title;
    }

    public static void main(String[] args) {
        for (EdgesTest town : List.of(fresh(), busy(), full(), late())) {
            for (String name : Calls.METHODS.keySet()) {
                town.tryAll(name, edges(name));
            }
        }
        Due.end();
    }

    private EdgesTest then(String name, int... p) {
        names.add(name);
        arguments.add(p);
        return this;
    }

    private EdgesTest tape(String bytes) {
        for (int[] p : Calls.fed(bytes)) {
            then("feed", p);
        }
        return then("trim", bytes.length());
    }

    private EdgesTest text(String bytes) {
        return tape(bytes).then("text");
    }

    private static EdgesTest fresh() {
        return new EdgesTest("new");
    }

    private static EdgesTest busy() {
        EdgesTest t = new EdgesTest("busy").then("weather", 0, 0, -1).then("weather", 0, 1, 9).then("run", 1).then("weather", 1, 0, 3)
            .then("weather", 1, 1, 2).then("weather", 2, 0, -1).then("weather", 2, 1, 1).then("roof", 3, 2).then("roof", 2, 3)
            .then("roof", 5, 4).then("sweep", 1, 20).then("run", 1).then("set", 0, 2, 4).then("use", 2, 3).then("sunset", 2);
        t.text("melt w*2+s/10").text("owner h>1").then("keep").then("roof", 1, 3).text("fine w+s*2").then("run", 1).then("seed", -9);
        t.then("sheet", 0, 0, 2).then("mark", 0, 0, 5).then("sheet", 1, 1, 3).then("mark", 1, 1, NONE).then("mark", 1, 2, -8)
            .then("sheet", 3, 0, 24).then("mark", 3, 23, 30000);
        t.then("lay", 0, 1, 2).then("lay", 1, 2, 1).then("lay", 2, 3, -7).then("lay", 4, 2, 3).then("tell", 8).then("tell", 79);
        return t.tape("fine 7 + w");
    }

    private static EdgesTest full() {
        EdgesTest t = new EdgesTest("full").then("deal", 8).then("sky").then("run", 50);
        for (int i = 0; i < 14; i++) {
            t.text((i % 2 == 0 ? "fine " : "melt ") + i);
        }
        for (int i = 0; i < 60; i++) {
            t.then("tell", i);
        }
        t.then("sheet", 0, 0, 24).then("sheet", 1, 1, 24);
        return t.tape("owner 1" + " ".repeat(89));
    }

    private static EdgesTest late() {
        EdgesTest t = new EdgesTest("late");
        for (int i = 0; i < 49; i++) {
            t.then("run", 200);
        }
        t.then("run", 197).then("weather", 13, 0, -3).then("weather", 13, 1, 9).then("weather", 14, 0, 4).then("weather", 14, 1, 5)
            .then("weather", 15, 1, 7).then("roof", 1, 1).then("roof", 3, 1);
        return t.then("keep").then("run", 1).then("tell", 0).then("tell", 90).then("sheet", 2, 0, 3);
    }

    /** By argument, the values that are tried. */
    private static int[][] edges(String name) {
        switch (name) {
            case "roof": return of(KIND, v(0, 1, 2, 8, 9, 10));
            case "told": return of(ROOF, v(-1, 0, 1, 2, 3, 4, 5, 6, 7, 8, 9, 10, 11));
            case "as": case "turns": return of(ROOF, KIND);
            case "set": return of(ROOF, v(0, 1, 2, 3, 4), v(-1, 0, 1, 2, 8, 9, 10, 99, 998, 999, 1000));
            case "sweep": return of(ROOF, v(MIN, -1, 0, 1, 2, 69, 70, 71, 9998, 9999, 10000, MAX));
            case "use": return of(ROOF, v(MIN, -1, 0, 1, 2, 5, 6, 7, 998, 999, 1000, MAX));
            case "deal": return of(v(MIN, -1, 0, 1, 2, 3, 4, 5, 7, 8, 9, MAX));
            case "seed": case "tell": return of(v(MIN, -1, 0, 1, 2, MAX, NONE));
            case "weather": return of(v(-1, 0, 1, 22, 23, 24), v(-1, 0, 1, 2), v(-21, -20, -19, -1, 0, 1, 8, 9, 10, 19, 20, 21));
            case "sunset": case "fine": case "why": case "kilos": case "count":
                return of(v(MIN, -1, 0, 1, 2, 3, 4, 5, 6, 7, 8, 9, 10, 23, 24, 25, MAX));
            case "run": return of(v(MIN, -1, 0, 1, 2, 3, 23, 24, 25, 199, 200, 201, MAX));
            case "behind": return of(ROOF, v(-1, 0, 1, 2, 24, 199, 200, 201), v(-1, 0, 1, 2, 3, 4));
            case "best": return of(ROOF, v(-1, 0, 1, 2, 71, 72, 73), v(-1, 0, 1, 2));
            case "leastRoom": return of(ROOF, v(MIN, -1, 0, 1, 2, 199, 200, 201, MAX));
            case "gains": return of(v(-1, 0, 1, 2, 14, 15, 23, 24, 25), v(-1, 0, 1, 2, 71, 72, 73));
            case "explained": return of(SHEET, v(-1, 0, 1, 2));
            case "feed": return of(v(MIN, 0), v(1, MAX), v(-1));
            case "trim": return of(v(MIN, -1, 0, 1, 9, 10, 11, 95, 96, 97, MAX));
            case "textTold": return of(v(-1, 0, 1, 2, 3, 12, 13, 14), v(-1, 0, 1, 2));
            default: return sheetEdges(name);
        }
    }

    private static int[][] sheetEdges(String name) {
        switch (name) {
            case "sheet": return of(SHEET, v(-2, -1, 0, 1, 2), v(MIN, -1, 0, 1, 23, 24, 25, MAX));
            case "mark":
                return of(SHEET, v(-1, 0, 1, 2, 3, 23, 24), v(MIN, -100000, -99999, -32769, -1, 0, 32767, 32768, 65536, 99999, 100000, MAX, NONE));
            case "pour": case "reads": return of(SHEET);
            case "copy": return of(SHEET, PLACE, SHEET, PLACE, v(-1, 0, 1, 2, 3, 24));
            case "lay": return of(SLOT, v(-1, 0, 1, 2, 3, 4), v(MIN, -1, 0, 1, 2, 3, 4, 7, 8));
            case "ask": return of(SLOT, KIND);
            case "item": return of(SLOT, v(MIN, -1, 0, 1, 2, 3, 23, 24, 25, MAX));
            case "rest": return of(SLOT, v(MIN, -1, 0, 1, 2, MAX));
            case "check": return of(v(MIN, -1, 0, 1, 2, 29, 30, 31, MAX));
            default: return of();
        }
    }

    private static int[][] of(int[]... all) {
        return all;
    }

    private static int[] v(int... all) {
        return all;
    }

    private void tryAll(String name, int[][] edges) {
        List<int[]> still = new ArrayList<>();
        int[] at = new int[edges.length];
        boolean more = true;
        while (more) {
            int[] p = new int[edges.length];
            for (int i = 0; i < p.length; i++) {
                p[i] = edges[i][at[i]];
            }
            if (changesNothing(name, p)) {
                still.add(p);
            } else {
                compare(name, List.of(p));
            }
            more = next(at, edges);
            if (still.size() == MOST_AT_ONCE || !more && !still.isEmpty()) {
                compare(name, still);
                still.clear();
            }
        }
    }

    private static boolean next(int[] at, int[][] edges) {
        for (int i = 0; i < at.length; i++) {
            at[i]++;
            if (at[i] < edges[i].length) {
                return true;
            }
            at[i] = 0;
        }
        return false;
    }

    private boolean changesNothing(String name, int[] p) {
        return ASKING.contains(name) || !CHANGING.contains(name) && begun(Calls.ofNewModel()).call(name, p) < -1000000000;
    }

    private Calls begun(Calls x) {
        for (int i = 0; i < names.size(); i++) {
            x.call(names.get(i), arguments.get(i));
        }
        return x;
    }

    /** The calls one behind the other: those that change nothing share one town. */
    private void compare(String name, List<int[]> calls) {
        Calls real = begun(Calls.ofNewObject());
        Calls model = begun(Calls.ofNewModel());
        for (int[] p : calls) {
            Due.due(title + " town, " + name + Arrays.toString(p), real.call(name, p), model.call(name, p));
        }
        List<Integer> seen = Look.at(real);
        boolean same = seen.equals(Look.at(model));
        if (calls.size() > 1 || changesNothing(name, calls.get(0))) {
            same &= seen.equals(Look.at(begun(Calls.ofNewObject())));
        }
        Due.holds(title + " town: all is as due behind " + name + Arrays.deepToString(calls.toArray()), same);
        Due.holds(title + " town: no more than 512 calls", names.size() + calls.size() + seen.size() <= MOST_CALLS);
    }
}
