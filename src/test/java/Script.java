import java.util.ArrayList;
import java.util.Arrays;
import java.util.List;

/** Calls on one new object, told in rows such as "roof 0 5 = 0"; a constant may stand for its number. */
final class Script {
    private static final int MOST_CALLS = 512;

    private final Calls object = Calls.ofNewObject();
    /** All calls but those of which it has been shown that they change nothing. */
    private final List<Call> calls = new ArrayList<>();
    private final String title;
    private int made = 0;

    private static final class Call {
        final String name;
        final int[] arguments;

        Call(String name, int[] arguments) {
            this.name = name;
            this.arguments = arguments;
        }

        int on(Calls x) {
            return x.call(name, arguments);
        }

        @Override
        public String toString() {
            return name + Arrays.toString(arguments);
        }
    }

    Script(String title) {
        this.title = title;
    }

    /** Each call answers what stands behind it. */
    Script say(String... rows) {
        for (String row : rows) {
            Call call = callOf(row);
            Due.due(title + ": " + call, made(call), dueOf(row));
            calls.add(call);
        }
        return this;
    }

    /** Each call answers what stands behind it, and all that can be seen is as it was without it. */
    Script leaves(String... rows) {
        List<Integer> without = look(calls);
        for (String row : rows) {
            Call call = callOf(row);
            Due.due(title + ": " + call, made(call), dueOf(row));
            checkKept(call, without);
        }
        return this;
    }

    /** All that can be seen is as it was without each call, whatever it answers. */
    Script keeps(String... rows) {
        List<Integer> without = look(calls);
        for (String row : rows) {
            Call call = callOf(row);
            made(call);
            checkKept(call, without);
        }
        return this;
    }

    /** The hole # of the call takes least .. most: what is outside is BAD, and nothing changes. */
    Script outside(String call, int least, int most) {
        for (int v : new int[] {least - 1, most + 1, Integer.MIN_VALUE, Integer.MAX_VALUE}) {
            leaves(call.replace("#", Integer.toString(v)) + " = BAD");
        }
        return this;
    }

    /** All that can be seen is as behind the other run of calls. */
    Script isAs(Script other) {
        Due.holds(title + ": all is as behind " + other.calls, look(calls).equals(look(other.calls)));
        return this;
    }

    /** The tape becomes these bytes, whatever it was. */
    Script feeds(String bytes) {
        call("trim", 0);
        for (int[] p : Calls.fed(bytes)) {
            call("feed", p);
        }
        Due.due(title + ": trim behind feeds", call("trim", bytes.length()), bytes.length());
        return this;
    }

    /** These bytes are read as a text. */
    Script reads(String bytes, int due) {
        feeds(bytes);
        Due.due(title + ": text() of \"" + bytes + "\"", call("text"), due);
        return this;
    }

    int call(String name, int... arguments) {
        Call call = new Call(name, arguments);
        calls.add(call);
        return made(call);
    }

    private int made(Call call) {
        made++;
        if (made > MOST_CALLS) {
            Due.holds(title + ": no more than 512 calls", false);
        }
        return call.on(object);
    }

    private void checkKept(Call call, List<Integer> without) {
        List<Call> with = new ArrayList<>(calls);
        with.add(call);
        Due.holds(title + ": nothing changes by " + call, look(with).equals(without));
    }

    private List<Integer> look(List<Call> run) {
        Calls twin = Calls.ofNewObject();
        for (Call call : run) {
            call.on(twin);
        }
        List<Integer> seen = Look.at(twin);
        if (run.size() + seen.size() > MOST_CALLS) {
            Due.holds(title + ": no more than 512 calls with a look, not " + (run.size() + seen.size()), false);
        }
        return seen;
    }

    private static Call callOf(String row) {
        String[] words = row.split(" = ")[0].strip().split(" +");
        int[] arguments = new int[words.length - 1];
        for (int i = 1; i < words.length; i++) {
            arguments[i - 1] = number(words[i]);
        }
        return new Call(words[0], arguments);
    }

    private static int dueOf(String row) {
        return number(row.split(" = ")[1].strip());
    }

    private static int number(String word) {
        switch (word) {
            case "BAD": return RoofSnow.BAD;
            case "NO": return RoofSnow.NO;
            case "FULL": return RoofSnow.FULL;
            case "NONE": return RoofSnow.NONE;
            case "NOTHING": return RoofSnow.NOTHING;
            case "KIND": return RoofSnow.KIND;
            case "INDEX": return RoofSnow.INDEX;
            case "SIZE": return RoofSnow.SIZE;
            case "MIN": return Integer.MIN_VALUE;
            case "MAX": return Integer.MAX_VALUE;
            default: return Integer.parseInt(word);
        }
    }
}
