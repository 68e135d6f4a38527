/** Promises 1 to 10. */
public final class RoofsTest {
    public static void main(String[] args) {
        newObject();
        roof();
        told();
        as();
        turns();
        set();
        sweep();
        use();
        dealAndSeed();
        Due.end();
    }

    private static void newObject() {
        Script s = new Script("promise 1");
        s.say("count 0 = 0", "count 1 = 0", "count 2 = 18", "count 3 = 0", "count 4 = 0", "count 5 = 0", "count 6 = 0",
            "count 7 = 0", "count 8 = 1", "count 9 = BAD", "count -1 = BAD");
        for (int i = 0; i <= 6; i++) {
            s.say("kilos " + i + " = 0");
        }
        for (int h = 0; h < 24; h++) {
            s.say("weather " + h + " 0 0 = 0", "weather " + h + " 1 0 = 0");
        }
        s.say("told 0 0 = BAD", "fine 0 = BAD", "why 0 = NONE", "why 1 = NONE", "why 2 = NONE", "back = NO",
            "check 1 = NO", "text = -100", "reads 0 = NOTHING", "reads 3 = NOTHING", "rest 0 1 = NOTHING",
            "rest 4 1 = NOTHING", "slide = NONE");
    }

    private static void roof() {
        Script s = new Script("promise 2");
        s.say("roof -1 5 = BAD", "roof 6 5 = BAD", "roof 0 0 = BAD", "roof 0 10 = BAD", "roof MIN MAX = BAD", "count 0 = 0");
        for (int i = 0; i < 8; i++) {
            s.say("roof " + i % 6 + " " + (i + 1) + " = " + i);
        }
        s.say("roof 0 1 = FULL", "roof 5 9 = FULL", "roof 6 1 = BAD", "roof 0 10 = BAD", "count 0 = 8");
        for (int i = 0; i < 8; i++) {
            s.say("told " + i + " 0 = " + i % 6, "told " + i + " 1 = " + (i + 1), "told " + i + " 2 = 0",
                "told " + i + " 3 = 100", "told " + i + " 4 = 0", "told " + i + " 5 = 0");
        }
    }

    private static void told() {
        Script s = new Script("promise 3");
        for (int kind = 0; kind < 6; kind++) {
            s.say("roof " + kind + " 7 = " + kind);
        }
        s.say("told -1 0 = BAD", "told 6 0 = BAD", "told 0 -1 = BAD", "told 0 11 = BAD", "told MAX MIN = BAD");
        int[] bears = {350, 70, 9999, 70, 9999, 350};
        int[] worth = {7, 10, 13, 20, 11, 30};
        for (int kind = 0; kind < 6; kind++) {
            s.say("told " + kind + " 8 = " + bears[kind], "told " + kind + " 10 = " + worth[kind]);
        }
        // snow on all of them (7 times 3 each), then a look at what warmth melts of it
        s.say("weather 0 0 -1 = 0", "weather 0 1 3 = 0", "run 1 = 0", "weather 1 0 2 = 0");
        int[] melts = {14, 14, 14, 14, 7, 21};
        for (int kind = 0; kind < 6; kind++) {
            s.say("told " + kind + " 5 = 21", "told " + kind + " 6 = 2", "told " + kind + " 7 = " + melts[kind]);
        }
        s.say("set 0 2 1 = 0", "told 0 6 = 3", "told 0 7 = 21", "set 4 2 3 = 0", "told 4 7 = 10", "weather 1 0 -2 = 2",
            "told 4 6 = 1", "told 4 7 = 3", "told 1 6 = -2", "told 1 7 = 0", "told 5 7 = 0", "set 5 2 3 = 0", "told 5 7 = 14");
        s.say("told 0 9 = 0", "sunset 1 = 18", "told 0 9 = 1", "sunset 2 = 1", "told 0 9 = 0");
    }

    private static void as() {
        Script s = new Script("promise 4");
        String[] under = {"0", "01", "02", "013", "024", "05"};
        for (int kind = 0; kind < 6; kind++) {
            s.say("roof " + kind + " " + (kind + 2) + " = " + kind);
        }
        for (int kind = 0; kind < 6; kind++) {
            for (int k = 0; k < 6; k++) {
                boolean of = under[kind].indexOf('0' + k) >= 0;
                s.say("as " + kind + " " + k + " = " + (of ? "" + (kind + 2) : "KIND"));
            }
        }
        s.say("as 6 0 = BAD", "as -1 0 = BAD", "as 0 6 = BAD", "as 0 -1 = BAD", "as 7 9 = BAD");
    }

    private static void turns() {
        Script s = new Script("promise 5");
        s.say("roof 0 4 = 0", "turns 0 3 = 0", "told 0 0 = 3", "told 0 8 = 40", "told 0 10 = 14", "turns 0 3 = 3",
            "turns 0 5 = 3", "as 0 1 = KIND", "turns 0 6 = BAD", "turns 0 -1 = BAD", "turns 1 0 = BAD", "turns -1 0 = BAD",
            "told 0 0 = 5", "told 0 1 = 4");
    }

    private static void set() {
        Script s = new Script("promise 6");
        s.say("roof 0 5 = 0", "set 0 1 9 = 5", "set 0 1 1 = 9", "set 0 1 0 = BAD", "set 0 1 10 = BAD", "told 0 1 = 1",
            "set 0 2 9 = 0", "set 0 2 0 = 9", "set 0 2 -1 = BAD", "set 0 2 10 = BAD", "told 0 2 = 0",
            "set 0 3 999 = 100", "set 0 3 0 = 999", "set 0 3 -1 = BAD", "set 0 3 1000 = BAD", "told 0 3 = 0",
            "set 0 0 1 = BAD", "set 0 4 1 = BAD", "set 1 1 1 = BAD", "set -1 1 1 = BAD", "set 0 MIN MAX = BAD");
        s.say("set 0 3 50 = 0", "set 0 1 9 = 1", "weather 0 0 1 = 0", "weather 0 1 5 = 0", "run 1 = 0", "told 0 4 = 45",
            "set 0 3 45 = 50", "kilos 3 = 0", "set 0 3 44 = 45", "told 0 4 = 44", "kilos 3 = 1", "set 0 3 0 = 44",
            "told 0 4 = 0", "kilos 3 = 45", "kilos 6 = 95");
    }

    private static void sweep() {
        Script s = new Script("promise 7");
        s.say("roof 2 1 = 0", "sweep 0 5 = 0", "weather 0 0 -1 = 0", "weather 0 1 9 = 0", "run 1 = 0", "kilos 0 = 90",
            "sweep 0 0 = BAD", "sweep 0 10000 = BAD", "sweep 0 -1 = BAD", "sweep 1 5 = BAD", "sweep -1 5 = BAD",
            "kilos 4 = 0", "sweep 0 1 = 1", "kilos 0 = 89", "kilos 4 = 1", "told 0 5 = 10", "sweep 0 9999 = 89",
            "kilos 0 = 0", "told 0 5 = 99", "kilos 4 = 90", "sweep 0 9999 = 0", "kilos 6 = 99");
        // a roof that is nearly full takes only what there is room for
        Script t = new Script("promise 7, room");
        t.say("roof 2 9 = 0");
        for (int h = 0; h < 24; h++) {
            t.say("weather " + h + " 0 -1 = 0", "weather " + h + " 1 9 = 0");
        }
        t.say("run 123 = 0", "told 0 5 = 9963", "kilos 0 = 11070", "sweep 0 35 = 35", "sweep 0 9999 = 1", "sweep 0 9999 = 0",
            "told 0 5 = 9999", "kilos 4 = 36", "kilos 0 = 11034", "run 1 = 0", "told 0 5 = 9999", "kilos 0 = 11205");
    }

    private static void use() {
        Script s = new Script("promise 8");
        s.say("roof 0 9 = 0", "use 0 5 = 0", "weather 0 0 1 = 0", "weather 0 1 9 = 0", "run 1 = 0", "told 0 4 = 81",
            "use 0 0 = BAD", "use 0 1000 = BAD", "use 1 5 = BAD", "use -1 5 = BAD", "use 0 1 = 1", "use 0 999 = 80",
            "use 0 999 = 0", "told 0 4 = 0", "kilos 5 = 81", "kilos 6 = 171");
    }

    private static void dealAndSeed() {
        Script s = new Script("promises 9 and 10");
        int z = 77;
        s.say("deal 0 = BAD", "deal 9 = BAD", "deal -1 = BAD", "count 8 = 1", "seed 77 = 1", "seed 77 = 77", "deal 3 = 3");
        for (int i = 0; i < 3; i++) {
            z = z * 1103515245 + 12345;
            int kind = (z >>> 8) % 6;
            z = z * 1103515245 + 12345;
            s.say("told " + i + " 0 = " + kind, "told " + i + " 1 = " + (1 + (z >>> 8) % 9), "told " + i + " 3 = 100");
        }
        s.say("count 8 = " + z, "deal 8 = 5");
        for (int i = 0; i < 10; i++) {
            z = z * 1103515245 + 12345;
        }
        s.say("count 8 = " + z, "deal 8 = 0", "deal 1 = 0", "count 8 = " + z, "deal 9 = BAD", "count 0 = 8",
            "seed MIN = " + z, "seed 0 = MIN", "count 8 = 0");
    }
}
