/** Part 5 of Terms and promises 28 to 36: each sentence at its bounds and on both sides of them. */
final class SentencesOfSheets {
    private SentencesOfSheets() {
    }

    static void all() {
        sheetsAndSlots();
        findings();
        sheet();
        mark();
        pour();
        reads();
        copy();
        copyRefused();
        lay();
        ask();
        item();
        rest();
    }

    /** The places of a sheet, seen through slot 4. */
    private static Script holds(Script s, int sheet, Object... places) {
        s.call("lay", 4, 2, sheet);
        for (int i = 0; i < places.length; i++) {
            s.say("item 4 " + i + " = " + places[i]);
        }
        return s.say("item 4 " + places.length + " = INDEX");
    }

    private static void sheetsAndSlots() {
        Script s = Document.term(5,
            "SHEETS 0 .. 3 are rows of shorts (sort 0) or floats (1; whole numbers), with 0 to 24 places, or MISSING (at first).");
        s.leaves("reads 0 = NOTHING", "reads 1 = NOTHING", "reads 2 = NOTHING", "reads 3 = NOTHING").outside("sheet # 0 1", 0, 3)
            .outside("reads #", 0, 3);
        s.say("sheet 0 0 0 = 0", "sheet 1 1 1 = 1", "sheet 2 0 23 = 23", "sheet 3 1 24 = 24").leaves("sheet 0 0 25 = BAD",
            "sheet 3 1 25 = BAD", "sheet 3 1 -1 = SIZE", "mark 0 0 1 = INDEX", "mark 1 1 1 = INDEX", "mark 2 23 1 = INDEX",
            "mark 3 24 1 = INDEX");
        s.say("mark 1 0 1 = 1", "mark 2 22 1 = 1", "mark 3 23 1 = 1");
        // 16777217 is more than a float holds, 99999 is not
        s.say("mark 3 0 99999 = 1", "mark 3 1 99998 = 1", "mark 3 2 -99999 = 1", "lay 0 2 3 = 0").leaves("item 0 0 = 99999",
            "item 0 1 = 99998", "item 0 2 = -99999");
        Document.term(5, "A place of floats may be NO NUMBER.").say("sheet 0 1 2 = 2", "mark 0 1 NONE = 1", "lay 0 2 0 = 0")
            .leaves("item 0 0 = 0", "item 0 1 = KIND").say("mark 0 1 5 = 1", "lay 0 2 0 = 2").leaves("item 0 1 = 5").say("sheet 0 0 2 = 2")
            .leaves("mark 0 1 NONE = KIND");

        Script slots = Document.term(5,
            "SLOTS 0 .. 4 each hold nothing (at first), a ROOF (as it is then, for good), "
                + "a SHEET (a row of its own, as it was then), or a number.");
        for (int i = 0; i < 5; i++) {
            slots.leaves("rest " + i + " 1 = NOTHING", "ask " + i + " 0 = NOTHING", "item " + i + " 0 = NOTHING");
        }
        slots.outside("lay # 3 1", 0, 4).outside("rest # 1", 0, 4).outside("ask # 0", 0, 4).outside("item # 0", 0, 4);
        slots.say("roof 1 2 = 0", "sheet 0 0 2 = 2", "mark 0 0 3 = 1", "lay 0 1 0 = 0", "lay 4 2 0 = 0", "lay 2 3 9 = 0",
            "lay 3 3 MIN = 0");
        // as it is then, for good: neither a turn, nor a new size, nor an image changes it
        slots.say("keep = 1", "turns 0 4 = 1", "set 0 1 9 = 2").leaves("ask 0 1 = 5", "ask 0 4 = KIND").say("back = 1", "set 0 1 3 = 2")
            .leaves("ask 0 1 = 5");
        slots.say("mark 0 0 4 = 1").leaves("item 4 0 = 3", "item 4 1 = 0").say("sheet 0 1 1 = 1").leaves("item 4 0 = 3", "item 4 1 = 0",
            "item 4 2 = INDEX").say("sheet 0 -1 0 = 0").leaves("item 4 0 = 3", "rest 2 10 = 9", "rest 3 10 = -8", "rest 1 1 = NOTHING");
        // two slots with one sheet each have a row of their own
        slots.say("sheet 1 0 1 = 1", "mark 1 0 1 = 1", "lay 0 2 1 = 1", "mark 1 0 2 = 1", "lay 1 2 1 = 0", "mark 1 0 3 = 1")
            .leaves("item 0 0 = 1", "item 1 0 = 2");
    }

    private static void findings() {
        Document.term(5, "FINDINGS: NOTHING: a SHEET is MISSING, a SLOT holds nothing;").leaves("mark 0 0 0 = NOTHING", "pour 0 = NOTHING",
            "reads 0 = NOTHING", "copy 0 0 0 0 0 = NOTHING", "explained 0 0 = NOTHING", "lay 0 2 0 = NOTHING", "ask 0 0 = NOTHING",
            "item 0 0 = NOTHING", "rest 0 1 = NOTHING").say("sheet 0 0 1 = 1", "lay 0 3 1 = 0").leaves("mark 0 0 0 = 1", "pour 0 = 0",
            "copy 0 0 0 0 0 = 0", "rest 0 1 = 0").say("sheet 0 -1 0 = 0", "lay 0 0 0 = 3").leaves("mark 0 0 0 = NOTHING",
            "rest 0 1 = NOTHING");
        Document.term(5, "INDEX: there is no such place;").say("sheet 0 0 2 = 2", "lay 0 2 0 = 0").leaves("mark 0 -1 5 = INDEX",
            "mark 0 2 5 = INDEX", "mark 0 MIN 5 = INDEX", "mark 0 MAX 5 = INDEX", "item 0 -1 = INDEX", "item 0 2 = INDEX", "item 0 1 = 0",
            "copy 0 0 0 0 3 = INDEX", "copy 0 1 0 1 1 = 1");
        Document.term(5, "SIZE: a number of places is below 0;").leaves("sheet 0 0 -1 = SIZE", "sheet 0 1 -1 = SIZE",
            "sheet 3 0 MIN = SIZE").say("sheet 0 0 0 = 0");
        Document.term(5, "KIND: it is none (of a KIND, a number, or another thing).").say("roof 1 1 = 0", "sheet 0 1 1 = 1",
            "mark 0 0 NONE = 1", "sheet 1 0 1 = 1", "lay 0 1 0 = 0", "lay 1 2 0 = 0", "lay 2 3 4 = 0")
            .leaves("as 0 3 = KIND", "ask 0 3 = KIND", "ask 1 0 = KIND", "ask 2 0 = KIND", "item 0 0 = KIND", "item 1 0 = KIND",
            "item 2 0 = KIND", "rest 0 1 = KIND", "rest 1 1 = KIND", "mark 1 0 NONE = KIND", "copy 0 0 1 0 1 = KIND");
    }

    private static void sheet() {
        Script s = Document.promise(28, "A SHEET becomes a row of n places of a sort, all 0 (sort -1: MISSING, n any): n (0).");
        for (int sort = 0; sort <= 1; sort++) {
            for (int n : new int[] {0, 1, 2}) {
                s.say("sheet 1 " + sort + " " + n + " = " + n);
                holds(s, 1, n == 0 ? new Object[] {} : n == 1 ? new Object[] {0} : new Object[] {0, 0});
            }
            for (int n : new int[] {23, 24}) {
                s.say("sheet 1 " + sort + " " + n + " = " + n, "mark 1 " + (n - 1) + " 7 = 1").leaves("mark 1 " + n + " 7 = INDEX");
            }
        }
        // what stood there is 0 again
        s.say("sheet 0 1 3 = 3", "mark 0 0 5 = 1", "mark 0 2 NONE = 1", "sheet 0 1 3 = 3");
        holds(s, 0, 0, 0, 0).say("mark 0 0 5 = 1", "sheet 0 0 2 = 2");
        holds(s, 0, 0, 0).say("mark 0 1 5 = 1", "sheet 0 0 1 = 1", "sheet 0 0 2 = 2");
        holds(s, 0, 0, 0);
        for (String n : new String[] {"0", "1", "24", "25", "-1", "MIN", "MAX"}) {
            s.say("sheet 0 0 1 = 1", "sheet 0 -1 " + n + " = 0").leaves("reads 0 = NOTHING", "sheet 0 -1 " + n + " = 0");
        }
        s.say("reads 1 = 0");
        Script refused = Document.promise(28, "BAD: sheet, sort, n above 24; SIZE.").say("sheet 0 1 2 = 2", "mark 0 1 NONE = 1");
        refused.outside("sheet # 0 1", 0, 3).outside("sheet # -1 1", 0, 3).outside("sheet 0 # 1", -1, 1)
            .leaves("sheet 0 0 25 = BAD", "sheet 0 1 25 = BAD", "sheet 0 0 MAX = BAD", "sheet 0 0 -1 = SIZE", "sheet 0 1 MIN = SIZE",
            "sheet 4 0 -1 = BAD", "sheet -1 0 -1 = BAD", "sheet 0 2 -1 = BAD", "sheet 0 -2 -1 = BAD", "sheet 4 -1 -1 = BAD",
            "sheet 1 0 -1 = SIZE", "sheet 1 0 25 = BAD");
        holds(refused, 0, 0, "KIND");
    }

    private static void mark() {
        String words = "A place of a SHEET becomes v (of shorts its lowest 16 bits; of floats v, -99999 .. 99999; NONE: NO NUMBER): 1.";
        Object[][] shorts = {{0, 0}, {1, 1}, {-1, -1}, {32766, 32766}, {32767, 32767}, {32768, -32768}, {32769, -32767}, {-32767, -32767},
            {-32768, -32768}, {-32769, 32767}, {65535, -1}, {65536, 0}, {65537, 1}, {-65536, 0}, {-65537, -1}, {Integer.MAX_VALUE, -1},
            {Integer.MIN_VALUE, 0}, {99999, -31073}, {100000, -31072}, {-1000000004, 13820}, {-1000000006, 13818}};
        Script s = Document.promise(29, words).say("sheet 0 0 1 = 1");
        for (Object[] d : shorts) {
            s.say("mark 0 0 " + d[0] + " = 1");
            holds(s, 0, d[1]);
        }
        Script f = Document.promise(29, words).say("sheet 0 1 3 = 3");
        for (int v : new int[] {0, 1, -1, 32768, -32769, 99998, 99999, -99998, -99999}) {
            f.say("mark 0 1 " + v + " = 1");
            holds(f, 0, 0, v, 0);
        }
        f.say("mark 0 0 NONE = 1", "mark 0 2 NONE = 1");
        holds(f, 0, "KIND", -99999, "KIND").say("mark 0 0 0 = 1");
        holds(f, 0, 0, -99999, "KIND");

        Script refused = Document.promise(29, "BAD: sheet; NOTHING; INDEX; KIND: NONE in a row of shorts; BAD: v of floats.")
            .say("sheet 0 0 2 = 2", "mark 0 1 8 = 1", "sheet 1 1 2 = 2", "mark 1 1 NONE = 1", "sheet 3 0 0 = 0");
        refused.outside("mark # 0 0", 0, 3).leaves("mark 2 0 0 = NOTHING", "mark 0 -1 0 = INDEX", "mark 0 2 0 = INDEX",
            "mark 0 MIN 0 = INDEX", "mark 0 MAX 0 = INDEX", "mark 1 -1 0 = INDEX", "mark 1 2 0 = INDEX", "mark 3 0 0 = INDEX",
            "mark 0 0 NONE = KIND", "mark 0 1 NONE = KIND", "mark 1 0 100000 = BAD", "mark 1 0 -100000 = BAD", "mark 1 0 MIN = BAD",
            "mark 1 0 MAX = BAD", "mark 1 0 -1000000004 = BAD", "mark 1 1 -1000000006 = BAD", "mark 1 1 BAD = BAD");
        // of several the one that stands first
        refused.leaves("mark 4 9 NONE = BAD", "mark -1 -1 100000 = BAD", "mark 2 -1 NONE = NOTHING", "mark 2 9 100000 = NOTHING",
            "mark 0 2 NONE = INDEX", "mark 0 -1 NONE = INDEX", "mark 3 0 NONE = INDEX", "mark 1 2 100000 = INDEX", "mark 1 -1 MIN = INDEX",
            "mark 1 2 NONE = INDEX");
    }

    private static void pour() {
        String words = "FALL of hours of the day becomes the places of a SHEET from 0 on (each held within 0 .. 9; NO NUMBER, and beyond "
            + "the SHEET: it stays): how many are otherwise then.";
        int[][] held = {{-32768, 0}, {-1, 0}, {0, 0}, {1, 1}, {8, 8}, {9, 9}, {10, 9}, {32767, 9}};
        for (int[] d : held) {
            Document.promise(30, words).say("sheet 0 0 1 = 1", "mark 0 0 " + d[0] + " = 1", "pour 0 = " + (d[1] == 0 ? 0 : 1))
                .leaves("pour 0 = 0").say("weather 0 1 5 = " + d[1], "pour 0 = 1", "weather 0 1 " + d[1] + " = " + d[1])
                .leaves("pour 0 = 0");
        }
        Document.promise(30, words).say("sheet 0 1 3 = 3", "mark 0 0 99999 = 1", "mark 0 1 NONE = 1", "mark 0 2 -99999 = 1",
            "weather 0 1 4 = 0", "weather 1 1 4 = 0", "weather 2 1 4 = 0", "weather 3 1 4 = 0", "weather 0 0 7 = 0", "pour 0 = 2",
            "weather 0 1 0 = 9", "weather 1 1 0 = 4", "weather 2 1 0 = 0", "weather 3 1 0 = 4", "weather 0 0 0 = 7");
        for (int n : new int[] {0, 1, 23, 24}) {
            Script s = Skies.all(Document.promise(30, words), 2, 3).say("sheet 2 0 " + n + " = " + n, "pour 2 = " + n).leaves("pour 2 = 0");
            for (int h : new int[] {0, 1, 22, 23}) {
                s.say("weather " + h + " 1 1 = " + (h < n ? 0 : 3), "weather " + h + " 0 1 = 2");
            }
        }
        Document.promise(30, "BAD; NOTHING.").say("weather 0 1 4 = 0", "sheet 0 0 24 = 24").outside("pour #", 0, 3)
            .leaves("pour 1 = NOTHING", "pour 3 = NOTHING").say("sheet 0 -1 0 = 0").leaves("pour 0 = NOTHING");
    }

    private static void reads() {
        String words = "The first place (of numbers alone) at which a SHEET is not WATER of that ROOF (of places that are no ROOF all "
            + "numbers are not).";
        String[] rain = {"roof 0 4 = 0", "roof 0 5 = 1", "weather 0 0 1 = 0", "weather 0 1 2 = 0", "run 1 = 0"};
        for (int sort = 0; sort <= 1; sort++) {
            Script s = Document.promise(31, words).say(rain).say("sheet 0 " + sort + " 2 = 2").leaves("reads 0 = 0").say("mark 0 0 7 = 1")
                .leaves("reads 0 = 0").say("mark 0 0 9 = 1").leaves("reads 0 = 0").say("mark 0 0 8 = 1").leaves("reads 0 = 1")
                .say("mark 0 1 10 = 1").leaves("reads 0 = NONE");
            s.say("sheet 1 " + sort + " 3 = 3", "copy 0 0 1 0 2 = 2").leaves("reads 1 = 2").say("mark 1 2 8 = 1").leaves("reads 1 = 2")
                .say("roof 0 1 = 2").leaves("reads 1 = 2").say("mark 1 2 0 = 1").leaves("reads 1 = NONE").say("use 1 1 = 1")
                .leaves("reads 1 = 1").say("use 0 8 = 8").leaves("reads 1 = 0");
        }
        Script f = Document.promise(31, words).say(rain).say("sheet 0 1 4 = 4", "mark 0 0 NONE = 1").leaves("reads 0 = 1")
            .say("mark 0 1 NONE = 1").leaves("reads 0 = 2").say("mark 0 2 NONE = 1").leaves("reads 0 = 3").say("mark 0 3 NONE = 1")
            .leaves("reads 0 = NONE");
        f.say("mark 0 1 10 = 1").leaves("reads 0 = NONE").say("mark 0 1 11 = 1").leaves("reads 0 = 1");
        // eight roofs and a ninth place, which is no roof
        Document.promise(31, words).say("deal 8 = 8", "sheet 0 0 8 = 8", "sheet 1 0 9 = 9", "sheet 2 0 24 = 24")
            .leaves("reads 0 = NONE", "reads 1 = 8", "reads 2 = 8");
        Document.promise(31, "BAD; NOTHING; NONE: there is none.").outside("reads #", 0, 3).leaves("reads 0 = NOTHING")
            .say("sheet 0 0 0 = 0", "sheet 1 1 1 = 1", "sheet 2 0 1 = 1").leaves("reads 0 = NONE", "reads 1 = 0", "reads 2 = 0",
            "reads 3 = NOTHING").say("roof 0 1 = 0").leaves("reads 1 = NONE", "reads 2 = NONE").say("sheet 0 -1 0 = 0")
            .leaves("reads 0 = NOTHING").outside("reads #", 0, 3);
    }

    private static Script rows(Script s) {
        s.say("sheet 0 0 5 = 5", "sheet 1 0 3 = 3", "sheet 2 1 3 = 3");
        for (int i = 0; i < 5; i++) {
            s.say("mark 0 " + i + " " + (i + 1) + " = 1");
        }
        return s.say("mark 1 0 7 = 1", "mark 1 1 8 = 1", "mark 1 2 9 = 1", "mark 2 0 99999 = 1", "mark 2 1 NONE = 1");
    }

    private static void copy() {
        String words = "So many places of a SHEET come to another one (or the same), as they were: many.";
        Script all = rows(Document.promise(32, words)).say("copy 0 0 1 0 3 = 3");
        holds(holds(all, 1, 1, 2, 3), 0, 1, 2, 3, 4, 5);
        Script end = rows(Document.promise(32, words)).say("copy 0 4 1 2 1 = 1", "copy 0 3 1 0 2 = 2");
        holds(end, 1, 4, 5, 5);
        Script back = rows(Document.promise(32, "(From a SHEET, its place, to a SHEET, its place.)")).say("copy 1 1 0 3 2 = 2");
        holds(holds(back, 0, 1, 2, 3, 8, 9), 1, 7, 8, 9);
        // onto itself, both ways, as they were
        holds(rows(Document.promise(32, words)).say("copy 0 0 0 1 4 = 4"), 0, 1, 1, 2, 3, 4);
        holds(rows(Document.promise(32, words)).say("copy 0 1 0 0 4 = 4"), 0, 2, 3, 4, 5, 5);
        holds(rows(Document.promise(32, words)).say("copy 0 0 0 2 3 = 3"), 0, 1, 2, 1, 2, 3);
        rows(Document.promise(32, words)).leaves("copy 0 0 0 0 5 = 5", "copy 0 2 0 2 3 = 3", "copy 0 4 0 4 1 = 1");
        // none at all: from and to any place, and the one right behind the last
        rows(Document.promise(32, words)).say("sheet 3 0 0 = 0").leaves("copy 0 0 1 0 0 = 0", "copy 0 5 1 3 0 = 0", "copy 0 5 0 5 0 = 0",
            "copy 3 0 3 0 0 = 0", "copy 3 0 0 5 0 = 0", "copy 0 5 3 0 0 = 0");
        // what is no number goes along
        holds(rows(Document.promise(32, words)).say("sheet 3 1 2 = 2", "copy 2 0 3 0 2 = 2"), 3, 99999, "KIND");
        holds(rows(Document.promise(32, words)).say("copy 2 0 2 1 2 = 2"), 2, 99999, 99999, "KIND");
        // the longest rows
        Script long24 = Document.promise(32, words).say("sheet 0 0 24 = 24", "sheet 1 0 24 = 24", "mark 0 0 1 = 1", "mark 0 23 2 = 1");
        long24.leaves("copy 0 0 1 0 25 = INDEX", "copy 0 1 1 0 24 = INDEX", "copy 0 0 1 1 24 = INDEX")
            .say("copy 0 0 1 0 24 = 24", "mark 1 1 3 = 1", "copy 1 0 0 1 23 = 23", "lay 0 2 0 = 0")
            .leaves("item 0 0 = 1", "item 0 1 = 1", "item 0 2 = 3", "item 0 23 = 0");
    }

    private static void copyRefused() {
        Script s = rows(Document.promise(32, "BAD; NOTHING; KIND: they are not of one sort; INDEX."));
        s.outside("copy # 0 0 0 1", 0, 3).outside("copy 0 0 # 0 1", 0, 3).leaves("copy 3 0 0 0 1 = NOTHING", "copy 0 0 3 0 1 = NOTHING",
            "copy 3 0 3 0 0 = NOTHING", "copy 0 0 2 0 1 = KIND", "copy 2 0 0 0 1 = KIND", "copy 0 0 2 0 0 = KIND");
        s.leaves("copy 0 -1 1 0 1 = INDEX", "copy 0 0 1 -1 1 = INDEX", "copy 0 0 1 0 -1 = INDEX", "copy 0 3 1 0 3 = INDEX",
            "copy 0 5 1 0 1 = INDEX", "copy 0 6 1 0 0 = INDEX", "copy 0 0 1 3 1 = INDEX", "copy 0 0 1 4 0 = INDEX",
            "copy 0 0 1 0 4 = INDEX", "copy 0 0 1 1 3 = INDEX", "copy 0 -1 1 0 0 = INDEX", "copy 0 0 1 -1 0 = INDEX",
            "copy 0 MIN 1 0 1 = INDEX", "copy 0 0 1 MIN 1 = INDEX", "copy 0 0 1 0 MIN = INDEX", "copy 0 MAX 1 0 1 = INDEX",
            "copy 0 0 1 MAX 1 = INDEX", "copy 0 0 1 0 MAX = INDEX", "copy 0 MAX 1 MAX MAX = INDEX", "copy 0 1 1 0 MAX = INDEX",
            "copy 0 MAX 1 0 MIN = INDEX");
        // of several the one that stands first
        s.leaves("copy 4 9 3 9 9 = BAD", "copy 3 9 4 9 9 = BAD", "copy 3 -1 0 9 -9 = NOTHING", "copy 0 -1 3 9 -9 = NOTHING",
            "copy 2 9 3 9 9 = NOTHING", "copy 0 9 2 9 9 = KIND", "copy 2 -1 0 -1 -1 = KIND");
    }

    private static void lay() {
        Script s = Document.promise(33, "A SLOT holds: thing 0 nothing, 1 ROOF k, 2 SHEET k, 3 the number k: what it held (0 .. 3).")
            .say("roof 1 2 = 0", "roof 5 2 = 1", "sheet 0 0 1 = 1", "sheet 3 1 1 = 1", "mark 3 0 6 = 1");
        int[] things = {0, 1, 2, 3};
        int held = 0;
        for (int from : things) {
            for (int to : things) {
                s.say("lay 2 " + from + " 0 = " + held, "lay 2 " + to + " 0 = " + from);
                held = to;
            }
        }
        s.say("lay 0 1 0 = 0", "lay 4 1 1 = 0", "lay 1 2 0 = 0", "lay 2 2 3 = 3", "lay 3 3 0 = 0").leaves("ask 0 0 = 5", "ask 4 0 = 30",
            "item 1 0 = 0", "item 2 0 = 6", "rest 3 5 = 0");
        for (String k : new String[] {"MIN", "-1", "0", "1", "MAX"}) {
            s.say("lay 3 3 " + k + " = 3", "lay 3 0 " + k + " = 3", "lay 3 3 " + k + " = 0");
        }
        s.leaves("lay 3 3 MAX = 3", "rest 3 MIN = MAX");
        Script refused = Document.promise(33, "BAD: slot, thing, k; NOTHING: that SHEET is MISSING.").outside("lay 0 1 #", 0, -1)
            .say("roof 0 1 = 0", "roof 0 2 = 1", "sheet 1 0 1 = 1", "lay 0 3 77 = 0", "lay 1 1 0 = 0", "lay 2 2 1 = 0");
        refused.outside("lay # 0 0", 0, 4).outside("lay # 3 0", 0, 4).outside("lay 0 # 0", 0, 3).outside("lay 0 1 #", 0, 1)
            .outside("lay 1 2 #", 0, 3);
        refused.leaves("lay 0 2 0 = NOTHING", "lay 1 2 2 = NOTHING", "lay 2 2 3 = NOTHING", "lay 3 2 0 = NOTHING", "lay 5 2 0 = BAD",
            "lay -1 2 0 = BAD", "lay 5 1 9 = BAD", "lay 0 4 9 = BAD");
    }

    private static void ask() {
        String words = "WORTH of the ROOF in a SLOT, taken for one of a KIND (0 .. 5).";
        String[] under = {"0", "01", "02", "013", "024", "05"};
        int[][] worth = {{1, 9}, {4, 12}, {19, 11}, {8, 24}, {17, 9}, {30, 30}};
        for (int kind = 0; kind < 6; kind++) {
            Script s = Document.promise(34, words).say("roof " + kind + " 1 = 0", "roof " + kind + " 9 = 1", "lay 0 1 0 = 0",
                "lay 4 1 1 = 0");
            for (int as = 0; as < 6; as++) {
                boolean is = under[kind].indexOf('0' + as) >= 0;
                s.leaves("ask 0 " + as + " = " + (is ? "" + worth[kind][0] : "KIND"),
                    "ask 4 " + as + " = " + (is ? "" + worth[kind][1] : "KIND"));
            }
        }
        Script refused = Document.promise(34, "BAD; NOTHING; KIND: it is no ROOF, or not of that KIND, nor of one under it.")
            .say("roof 2 3 = 0", "sheet 0 0 1 = 1", "lay 0 1 0 = 0", "lay 1 2 0 = 0", "lay 2 3 0 = 0");
        refused.outside("ask # 0", 0, 4).outside("ask 0 #", 0, 5).leaves("ask 3 0 = NOTHING", "ask 4 5 = NOTHING", "ask 1 0 = KIND",
            "ask 2 0 = KIND", "ask 0 4 = KIND", "ask 0 1 = KIND", "ask 0 2 = 17", "ask 0 0 = 17", "ask 5 6 = BAD", "ask 3 6 = BAD",
            "ask 3 -1 = BAD", "ask 1 6 = BAD", "ask 2 -1 = BAD");
    }

    private static void item() {
        Script s = Document.promise(35, "A place of the SHEET in a SLOT.").say("sheet 0 0 3 = 3", "mark 0 0 -32768 = 1",
            "mark 0 2 32767 = 1", "lay 0 2 0 = 0", "sheet 1 1 24 = 24", "mark 1 0 -99999 = 1", "mark 1 23 99999 = 1", "lay 4 2 1 = 0");
        s.leaves("item 0 0 = -32768", "item 0 1 = 0", "item 0 2 = 32767", "item 0 3 = INDEX", "item 4 0 = -99999", "item 4 23 = 99999",
            "item 4 24 = INDEX");
        Script refused = Document.promise(35, "BAD: slot; NOTHING; KIND: it is no SHEET; INDEX; KIND: NO NUMBER.")
            .say("roof 0 1 = 0", "sheet 0 1 2 = 2", "mark 0 1 NONE = 1", "sheet 1 0 0 = 0", "lay 0 1 0 = 0", "lay 1 3 9 = 0",
            "lay 2 2 0 = 0", "lay 3 2 1 = 0");
        refused.outside("item # 0", 0, 4).leaves("item 4 0 = NOTHING", "item 4 -1 = NOTHING", "item 0 0 = KIND", "item 1 0 = KIND",
            "item 0 -1 = KIND", "item 1 24 = KIND", "item 2 -1 = INDEX", "item 2 2 = INDEX", "item 2 MIN = INDEX", "item 2 MAX = INDEX",
            "item 3 0 = INDEX", "item 3 -1 = INDEX", "item 2 1 = KIND", "item 2 0 = 0", "item 5 -1 = BAD", "item -1 0 = BAD");
    }

    private static void rest() {
        String words = "The rest of the number in a SLOT by n.";
        Object[][] due = {{7, 3, 1}, {7, -3, 1}, {-7, 3, -1}, {-7, -3, -1}, {6, 3, 0}, {-6, 3, 0}, {0, 5, 0}, {5, 1, 0}, {5, -1, 0},
            {5, 6, 5}, {5, 5, 0}, {5, 4, 1}, {"MIN", -1, 0}, {"MIN", 1, 0}, {"MIN", "MIN", 0}, {"MIN", "MAX", -1}, {"MAX", "MIN", "MAX"},
            {"MAX", "MAX", 0}, {"MIN", 10, -8}, {"MAX", 10, 7}};
        for (Object[] d : due) {
            Document.promise(36, words).say("lay 4 3 " + d[0] + " = 0").leaves("rest 4 " + d[1] + " = " + d[2]);
        }
        Script refused = Document.promise(36, "BAD: slot; NOTHING; KIND: it is no number; NO: n is 0.")
            .say("roof 0 1 = 0", "sheet 0 0 1 = 1", "lay 0 1 0 = 0", "lay 1 2 0 = 0", "lay 2 3 9 = 0", "lay 3 3 0 = 0");
        refused.outside("rest # 1", 0, 4).outside("rest # 0", 0, 4).leaves("rest 4 1 = NOTHING", "rest 4 0 = NOTHING", "rest 0 1 = KIND",
            "rest 0 0 = KIND", "rest 1 1 = KIND", "rest 1 0 = KIND", "rest 2 0 = NO", "rest 2 1 = 0", "rest 2 -1 = 0", "rest 3 0 = NO");
    }
}
