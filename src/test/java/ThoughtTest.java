/** Promises 16 to 22. */
public final class ThoughtTest {
    public static void main(String[] args) {
        behind();
        best();
        leastRoom();
        slide();
        gains();
        explained();
        fine();
        Due.end();
    }

    /** Rain of 2 at hour 0, snow of 3 at hour 1, thaw at hours 2 and 20. */
    private static Script town(String title) {
        return new Script(title).say("roof 0 5 = 0", "roof 5 9 = 1", "weather 0 0 3 = 0", "weather 0 1 2 = 0",
            "weather 1 0 -4 = 0", "weather 1 1 3 = 0", "weather 2 0 1 = 0", "weather 20 0 2 = 0");
    }

    private static void behind() {
        Script s = town("promise 16");
        s.say("behind 0 0 0 = 0", "behind 0 1 0 = 10", "behind 1 1 0 = 18", "behind 0 1 2 = 20", "behind 0 2 1 = 15",
            "behind 1 2 1 = 27", "behind 0 3 1 = 10", "behind 1 3 1 = 9", "behind 0 3 2 = 48", "behind 0 21 0 = 20",
            "behind 1 21 0 = 27", "behind 1 21 1 = 0", "behind 0 200 3 = 204", "behind 1 200 0 = 100");
        s.say("behind 2 1 0 = BAD", "behind -1 1 0 = BAD", "behind 0 -1 0 = BAD", "behind 0 201 0 = BAD", "behind 0 1 4 = BAD",
            "behind 0 1 -1 = BAD", "behind MAX MAX MAX = BAD");
        s.say("count 1 = 0", "kilos 6 = 0", "told 0 4 = 0", "count 8 = 1", "run 3 = 0", "behind 0 0 0 = 10", "behind 0 0 1 = 10",
            "behind 0 0 2 = 48", "behind 0 0 3 = 0");
    }

    private static void best() {
        Script s = town("promise 17");
        s.say("best 0 1 0 = 0", "best 0 1 1 = 10", "best 0 72 2 = BAD", "best 0 72 -1 = BAD", "best 0 0 0 = BAD",
            "best 0 73 0 = BAD", "best 2 1 0 = BAD", "best -1 1 0 = BAD");
        // 27 kilos lie on it behind 2 hours; heat above 0 pays only while it owns
        s.say("run 2 = 0", "sunset 0 = 18", "told 0 5 = 15", "best 0 1 0 = 2", "best 0 1 1 = 23", "told 0 2 = 0",
            "set 0 2 7 = 0", "best 0 1 0 = 2", "best 0 1 1 = 23", "told 0 2 = 7", "sunset 24 = 0", "best 0 1 0 = 0",
            "best 0 1 1 = 10");
        // of several the least: what a heat of 1 more melts is just what it costs
        Script t = new Script("promise 17, several");
        t.say("roof 0 1 = 0", "sunset 0 = 18", "weather 0 0 -1 = 0", "weather 0 1 9 = 0", "run 1 = 0", "told 0 5 = 9",
            "best 0 1 0 = 0", "best 0 1 1 = 0", "set 0 1 2 = 1", "best 0 1 0 = 4", "best 0 1 1 = 4", "best 0 2 0 = 2",
            "best 0 2 1 = 4", "best 0 72 0 = 0");
        // the highest heat may be the best
        Script u = new Script("promise 17, most");
        u.say("roof 0 9 = 0", "sunset 0 = 18", "weather 0 0 -1 = 0", "weather 0 1 9 = 0", "run 1 = 0", "told 0 5 = 81",
            "best 0 1 0 = 9", "best 0 1 1 = 72");
    }

    private static void leastRoom() {
        Script s = town("promise 18");
        s.say("leastRoom 0 0 = 0", "leastRoom 0 1 = 10", "leastRoom 0 20 = 10", "leastRoom 0 21 = 20", "leastRoom 1 21 = 27",
            "leastRoom 1 200 = 234", "told 1 3 = 100", "behind 1 200 0 = 100");
        s.say("leastRoom 2 1 = BAD", "leastRoom -1 1 = BAD", "leastRoom 0 -1 = BAD", "leastRoom 0 201 = BAD");
        s.say("run 24 = 0", "set 0 3 10 = 100", "told 0 4 = 10", "leastRoom 0 0 = 10", "leastRoom 0 1 = 20", "kilos 3 = 10");
        // seven LEANING roofs feed the last one, which melts all: more than 99999 in 200 hours
        Script t = new Script("promise 18, 99999");
        for (int i = 0; i < 7; i++) {
            t.say("roof 3 9 = " + i);
        }
        t.say("roof 2 8 = 7").reads("melt (z=8)*9999", 0).reads("owner 1", 1);
        for (int h = 0; h < 24; h++) {
            t.say("weather " + h + " 0 -1 = 0", "weather " + h + " 1 9 = 0");
        }
        t.say("leastRoom 7 2 = 1278", "leastRoom 7 100 = 63900", "leastRoom 7 200 = 99999");
    }

    private static void slide() {
        Script s = new Script("promise 19");
        s.say("slide = NONE", "roof 1 1 = 0", "roof 2 9 = 1", "slide = NONE", "weather 5 0 -1 = 0", "weather 5 1 5 = 0",
            "slide = 54", "run 53 = 0", "slide = 1", "run 1 = 1", "slide = 72", "count 1 = 54", "weather 5 1 2 = 5", "slide = 144",
            "weather 5 1 1 = 2", "slide = NONE");
        // at the edge of 200 hours
        Script t = new Script("promise 19, edge");
        t.say("roof 1 1 = 0", "weather 7 0 -1 = 0", "weather 7 1 5 = 0", "run 8 = 0", "told 0 5 = 5", "weather 7 1 1 = 5",
            "slide = 144", "use 0 1 = 0", "turns 0 2 = 1", "slide = NONE", "turns 0 0 = 2", "slide = NONE", "turns 0 3 = 0",
            "slide = 144");
        Script u = new Script("promise 19, hour 200 and 201");
        u.say("roof 1 1 = 0", "weather 7 0 -1 = 0", "weather 7 1 9 = 0", "run 8 = 0", "told 0 5 = 9", "weather 7 1 0 = 9",
            "weather 15 0 -1 = 0", "weather 15 1 2 = 0", "slide = 8", "weather 15 1 0 = 2", "slide = NONE");
        Script v = new Script("promise 19, the 200th");
        v.say("roof 1 1 = 0", "weather 7 0 -1 = 0", "weather 7 1 2 = 0", "run 8 = 0", "weather 7 1 1 = 2", "told 0 5 = 2");
        v.say("run 15 = 0", "slide = NONE", "run 1 = 0", "slide = 200", "run 1 = 0", "slide = 199");
    }

    private static void gains() {
        Script s = new Script("promise 20");
        s.say("gains 0 1 = NONE", "gains 25 1 = BAD", "gains -1 1 = BAD", "gains 0 0 = BAD", "gains 0 73 = BAD");
        s.say("roof 0 2 = 0", "roof 0 4 = 1", "roof 0 4 = 2", "roof 2 1 = 3", "weather 0 0 -1 = 0", "weather 0 1 9 = 0",
            "weather 1 0 2 = 0", "run 1 = 0");
        s.say("gains 0 1 = 1", "gains 18 1 = 0", "gains 24 72 = 0", "gains 2 1 = 0", "gains 1 1 = 1", "gains 0 72 = 1", "sunset 0 = 18",
            "gains 0 1 = 0", "gains 2 1 = 3", "gains 24 1 = 3", "count 2 = 0", "set 0 3 0 = 100", "gains 24 1 = 0", "count 1 = 1");
    }

    private static void explained() {
        Script s = town("promise 21");
        s.say("explained 4 0 = BAD", "explained -1 0 = BAD", "explained 0 2 = BAD", "explained 0 -1 = BAD", "explained 0 0 = NOTHING",
            "sheet 0 0 0 = 0", "explained 0 0 = 0", "explained 0 1 = 0", "sheet 0 1 1 = 1", "mark 0 0 NONE = 1", "explained 0 0 = 0",
            "explained 0 1 = 0");
        // without owning at hour 2 the street has 48 then; owning, 25
        s.say("sheet 1 0 4 = 4", "explained 1 1 = 65", "explained 1 0 = 0", "mark 1 1 20 = 1", "mark 1 2 20 = 1", "mark 1 3 48 = 1",
            "explained 1 0 = 3", "explained 1 1 = 0", "mark 1 3 36 = 1", "explained 1 0 = 0", "explained 1 1 = 11",
            "mark 1 3 37 = 1", "explained 1 0 = 3", "explained 1 1 = 11", "mark 1 0 -7 = 1", "explained 1 1 = 18");
        s.say("count 2 = 18", "count 1 = 0", "sheet 0 1 4 = 4", "mark 0 0 NONE = 1", "mark 0 1 NONE = 1", "mark 0 2 -99999 = 1",
            "mark 0 3 99999 = 1", "explained 0 0 = 3", "explained 0 1 = 199970");
        // a place counts hours from now on
        s.say("run 2 = 0", "sheet 2 0 2 = 2", "mark 2 0 20 = 1", "mark 2 1 48 = 1", "explained 2 0 = 3", "explained 2 1 = 0");
        // one kilo at hour 0 tells sunsets 0 and 1 apart, one at hour 23 those of 23 and 24
        Script t = new Script("promise 21, first and last");
        t.say("roof 0 1 = 0", "weather 22 0 -1 = 0", "weather 22 1 1 = 0", "run 23 = 0", "weather 23 0 1 = 0", "told 0 5 = 1",
            "kilos 0 = 10", "told 0 7 = 1", "sheet 0 0 2 = 2", "mark 0 1 6 = 1", "explained 0 0 = 24", "explained 0 1 = 0",
            "mark 0 1 5 = 1", "explained 0 0 = 0", "explained 0 1 = 0");
        t.say("weather 23 0 0 = 1", "run 1 = 0", "weather 0 0 1 = 0", "mark 0 1 6 = 1", "explained 0 0 = 1", "explained 0 1 = 0",
            "mark 0 1 5 = 1", "explained 0 0 = 0", "explained 0 1 = 0", "sunset 0 = 18", "run 1 = 0", "told 0 4 = 1", "kilos 1 = 5");
    }

    private static void fine() {
        Script s = new Script("promise 22");
        s.say("fine 0 = BAD", "roof 2 1 = 0", "fine 0 = 0", "fine 1 = BAD", "fine -1 = BAD", "weather 0 0 -1 = 0",
            "weather 0 1 9 = 0", "run 1 = 0", "sweep 0 40 = 40", "fine 0 = 40");
        s.reads("fine w + s*2", 0).say("fine 0 = 80", "weather 1 0 1 = 0", "weather 1 1 7 = 0", "run 1 = 0", "told 0 4 = 7",
            "fine 0 = 87", "fine 1 = BAD");
        s.reads("fine 0-9999*9999*9", 1).say("fine 0 = -899820009");
        s.reads("fine 9999*9999*99", 2).say("fine 0 = " + 9999 * 9999 * 99);
        s.reads("fine 3/(w-w)", 3).say("fine 0 = 0");
        s.reads("fine (0-7)/2", 4).say("fine 0 = -3");
    }
}
