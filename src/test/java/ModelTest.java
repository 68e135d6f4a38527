import java.util.ArrayList;
import java.util.Arrays;
import java.util.List;
import java.util.Map;
import java.util.Random;
import java.util.TreeMap;

/** Random runs of at most 512 calls, each answer against the model's. Arguments: how many runs, the first run's seed. */
public final class ModelTest {
    /** With the last act of a run (62 calls at most) and the look at all behind it (97) no more than 512. */
    private static final int CALLS = 350;
    private static final int[] ODD = {-1, 0, 1, 24, 25, 99, 100, 999, 1000, 9999, 10000, 32768, -99999, 99999, 100000,
        -100000, Integer.MIN_VALUE, Integer.MAX_VALUE, RoofSnow.NONE, RoofSnow.BAD};
    private static final Map<String, Integer> ANSWERED = new TreeMap<>();

    private final Random lot;
    private final Calls real = Calls.ofNewObject();
    private final Model model = new Model();
    private final StringBuilder story = new StringBuilder();
    private int calls = 0;
    private boolean same = true;

    private ModelTest(long seed) {
        lot = new Random(seed);
    }

    public static void main(String[] args) {
        int runs = args.length > 0 ? Integer.parseInt(args[0]) : 500;
        long first = args.length > 1 ? Long.parseLong(args[1]) : 1;
        for (int i = 0; i < runs; i++) {
            ModelTest t = new ModelTest(first + i);
            t.go(i % 4);
            Due.holds("run " + (first + i) + " answers as the model:\n" + t.story, t.same);
        }
        for (String name : Calls.METHODS.keySet()) {
            Due.holds(name + " was answered in earnest", ANSWERED.getOrDefault(name, 0) > 0);
        }
        Due.end();
    }

    private void go(int mood) {
        if (mood != 0) {
            call("seed", lot.nextInt());
            call("deal", 1 + lot.nextInt(8));
            call("sky");
        }
        List<String> names = new ArrayList<>(Calls.METHODS.keySet());
        while (calls < CALLS && same) {
            int d = lot.nextInt(40);
            if (d < 3) {
                feedText();
            } else if (d < 5) {
                tellHours();
            } else if (d < 8 && mood == 2) {
                call("run", 200);
            } else {
                String name = names.get(lot.nextInt(names.size()));
                if (!(name.equals("text") && lot.nextInt(4) > 0)) {
                    call(name, arguments(name));
                }
            }
        }
        lookAtAll();
    }

    /** What is there behind all calls must be the same too. */
    private void lookAtAll() {
        for (int what = 0; what <= 8; what++) {
            call("count", what);
        }
        for (int r = 0; r < 8; r++) {
            for (int what = 0; what <= 10; what++) {
                call("told", r, what);
            }
        }
    }

    private void call(String name, int... p) {
        if (!same) {
            return;
        }
        calls++;
        int want = model.answer(name, p);
        int got = real.call(name, p);
        if (want > -1000000000) {
            ANSWERED.merge(name, 1, Integer::sum);
        }
        story.append(name).append(Arrays.toString(p)).append(" = ").append(got);
        story.append(got == want ? "\n" : ", due is " + want + "\n");
        same = got == want;
    }

    private int pick(int least, int most) {
        int d = lot.nextInt(20);
        if (d == 0) {
            return ODD[lot.nextInt(ODD.length)];
        }
        if (d == 1) {
            return lot.nextBoolean() ? least - 1 : most + 1;
        }
        if (d == 2) {
            return lot.nextBoolean() ? least : most;
        }
        return least + lot.nextInt(most - least + 1);
    }

    private int anyInt() {
        return lot.nextInt(3) == 0 ? ODD[lot.nextInt(ODD.length)] : lot.nextInt(4) == 0 ? lot.nextInt() : lot.nextInt(300) - 20;
    }

    private int roofNumber() {
        int many = model.answer("count", new int[] {0});
        return pick(0, Math.max(0, many - 1));
    }

    private int[] arguments(String name) {
        switch (name) {
            case "roof": return new int[] {pick(0, 5), pick(1, 9)};
            case "told": return new int[] {roofNumber(), pick(0, 10)};
            case "as": case "turns": return new int[] {roofNumber(), pick(0, 5)};
            case "set": {
                int what = pick(1, 3);
                return new int[] {roofNumber(), what, what == 3 ? pick(0, 999) : pick(0, 9)};
            }
            case "sweep": return new int[] {roofNumber(), pick(1, 9999)};
            case "use": return new int[] {roofNumber(), pick(1, lot.nextBoolean() ? 60 : 999)};
            case "deal": return new int[] {pick(1, 8)};
            case "seed": case "tell": return new int[] {anyInt()};
            case "weather": {
                int what = pick(0, 1);
                return new int[] {pick(0, 23), what, what == 0 ? pick(-20, 20) : pick(0, 9)};
            }
            case "sunset": return new int[] {pick(0, 24)};
            case "run": return new int[] {lot.nextBoolean() ? pick(1, 8) : pick(1, 200)};
            case "kilos": return new int[] {pick(0, 6)};
            case "behind": return new int[] {roofNumber(), pick(0, 200), pick(0, 3)};
            case "best": return new int[] {roofNumber(), pick(1, 72), pick(0, 1)};
            case "leastRoom": return new int[] {roofNumber(), pick(0, 200)};
            case "gains": return new int[] {pick(0, 24), pick(1, 72)};
            case "explained": return new int[] {pick(0, 3), pick(0, 1)};
            case "fine": return new int[] {roofNumber()};
            case "feed": return new int[] {anyInt(), anyInt(), anyInt()};
            case "trim": return new int[] {pick(0, 96)};
            case "textTold": return new int[] {pick(0, 6), pick(0, 1)};
            case "why": return new int[] {pick(0, 2)};
            case "slide": case "sky": case "text": case "keep": case "back": return new int[0];
            case "count": return new int[] {pick(0, 8)};
            case "check": return new int[] {pick(1, 30)};
            default: return sheetArguments(name);
        }
    }

    private int[] sheetArguments(String name) {
        switch (name) {
            case "sheet": return new int[] {pick(0, 3), lot.nextInt(12) == 0 ? -1 : pick(0, 1), pick(-1, 24)};
            case "mark": return new int[] {pick(0, 3), pick(0, 12), markable()};
            case "pour": case "reads": return new int[] {pick(0, 3)};
            case "copy": return new int[] {pick(0, 3), pick(0, 8), pick(0, 3), pick(0, 8), pick(0, 8)};
            case "lay": {
                int thing = pick(0, 3);
                return new int[] {pick(0, 4), thing, thing == 1 ? roofNumber() : thing == 2 ? pick(0, 3) : anyInt()};
            }
            case "ask": return new int[] {pick(0, 4), pick(0, 5)};
            case "item": return new int[] {pick(0, 4), pick(0, 12)};
            case "rest": return new int[] {pick(0, 4), anyInt()};
            default: throw new IllegalStateException(name);
        }
    }

    private int markable() {
        if (lot.nextInt(5) == 0) {
            return RoofSnow.NONE;
        }
        if (lot.nextInt(3) == 0) {
            int many = model.answer("count", new int[] {0});
            return many > 0 ? model.answer("told", new int[] {lot.nextInt(many), 4}) : 0;
        }
        return lot.nextInt(3) == 0 ? model.answer("kilos", new int[] {1}) : anyInt();
    }

    private void tellHours() {
        int n = 1 + lot.nextInt(lot.nextInt(5) == 0 ? 30 : 4);
        List<Integer> hours = model.hoursTold(n);
        int fault = lot.nextInt(4);
        if (fault == 0 && !hours.isEmpty()) {
            hours.remove(hours.size() - 1);
        } else if (fault == 1) {
            hours.add(anyInt());
        } else if (fault == 2 && !hours.isEmpty()) {
            hours.set(lot.nextInt(hours.size()), anyInt());
        }
        if (lot.nextInt(4) > 0) {
            call("check", 1);
        }
        for (int v : hours) {
            call("tell", v);
        }
        call("check", n);
    }

    private void feedText() {
        call("trim", 0);
        String t = RandomText.made(lot);
        for (int[] p : Calls.fed(t)) {
            call("feed", p);
        }
        call("trim", t.length());
        call("text");
    }
}
