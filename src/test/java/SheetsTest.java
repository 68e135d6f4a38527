/** Promises 28 to 36. */
public final class SheetsTest {
    public static void main(String[] args) {
        sheet();
        mark();
        pour();
        reads();
        copy();
        lay();
        ask();
        item();
        rest();
        Due.end();
    }

    private static void sheet() {
        Script s = new Script("promise 28");
        s.say("sheet 0 0 24 = 24", "sheet 1 1 0 = 0", "sheet 4 0 1 = BAD", "sheet -1 0 1 = BAD", "sheet 0 2 1 = BAD",
            "sheet 0 -2 1 = BAD", "sheet 0 0 25 = BAD", "sheet 0 1 -1 = SIZE", "sheet 0 1 MIN = SIZE", "sheet 4 0 -1 = BAD",
            "sheet 0 2 -1 = BAD", "sheet 0 0 MAX = BAD", "mark 0 23 1 = 1", "mark 0 24 1 = INDEX", "mark 1 0 1 = INDEX");
        s.say("sheet 0 -1 99 = 0", "reads 0 = NOTHING", "sheet 0 -1 -99 = 0", "sheet 4 -1 0 = BAD", "sheet 3 -1 0 = 0");
        // a new row is all 0, whatever stood there
        s.say("sheet 0 1 2 = 2", "mark 0 0 5 = 1", "mark 0 1 NONE = 1", "sheet 0 0 2 = 2", "lay 0 2 0 = 0", "item 0 0 = 0",
            "item 0 1 = 0", "mark 0 1 NONE = KIND");
    }

    private static void mark() {
        Script s = new Script("promise 29");
        s.say("mark 4 0 0 = BAD", "mark -1 0 0 = BAD", "mark 0 0 0 = NOTHING", "sheet 0 0 3 = 3", "sheet 1 1 3 = 3");
        s.say("mark 0 3 0 = INDEX", "mark 0 -1 NONE = INDEX", "mark 1 3 100000 = INDEX", "mark 0 0 NONE = KIND", "mark 1 0 100000 = BAD",
            "mark 1 0 -100000 = BAD", "mark 1 0 MIN = BAD", "mark 1 0 99999 = 1", "mark 1 1 -99999 = 1", "mark 1 2 NONE = 1");
        s.say("mark 0 0 32768 = 1", "mark 0 1 MIN = 1", "mark 0 2 -65537 = 1", "lay 0 2 0 = 0", "lay 1 2 1 = 0");
        s.say("item 0 0 = -32768", "item 0 1 = 0", "item 0 2 = -1", "item 1 0 = 99999", "item 1 1 = -99999", "item 1 2 = KIND");
        s.say("mark 0 0 32767 = 1", "mark 1 2 0 = 1", "lay 0 2 0 = 2", "lay 1 2 1 = 2", "item 0 0 = 32767", "item 1 2 = 0");
    }

    private static void pour() {
        Script s = new Script("promise 30");
        s.say("pour 4 = BAD", "pour -1 = BAD", "pour 0 = NOTHING", "sheet 0 1 0 = 0", "pour 0 = 0", "weather 0 1 3 = 0",
            "weather 1 1 3 = 0", "weather 2 1 3 = 0", "weather 3 1 3 = 0", "weather 4 1 3 = 0", "sheet 0 1 4 = 4", "mark 0 0 NONE = 1",
            "mark 0 1 10 = 1", "mark 0 2 -1 = 1", "mark 0 3 3 = 1", "pour 0 = 2", "pour 0 = 0");
        s.say("weather 0 1 3 = 3", "weather 1 1 3 = 9", "weather 2 1 3 = 0", "weather 3 1 3 = 3", "weather 4 1 3 = 3");
        s.say("sheet 1 0 24 = 24", "mark 1 23 7 = 1", "pour 1 = 6", "weather 23 1 0 = 7", "weather 4 1 0 = 0", "pour 1 = 1");
    }

    private static void reads() {
        Script s = new Script("promise 31");
        s.say("reads 4 = BAD", "reads -1 = BAD", "reads 0 = NOTHING", "sheet 0 0 0 = 0", "reads 0 = NONE", "sheet 0 1 2 = 2",
            "reads 0 = 0", "mark 0 0 NONE = 1", "reads 0 = 1", "mark 0 1 NONE = 1", "reads 0 = NONE");
        s.say("roof 0 4 = 0", "roof 0 5 = 1", "weather 0 0 1 = 0", "weather 0 1 2 = 0", "run 1 = 0", "sheet 1 0 2 = 2", "reads 1 = 0",
            "mark 1 0 8 = 1", "reads 1 = 1", "mark 1 1 10 = 1", "reads 1 = NONE", "sheet 2 1 3 = 3", "mark 2 0 NONE = 1",
            "mark 2 1 10 = 1", "reads 2 = 2", "mark 2 2 NONE = 1", "reads 2 = NONE", "use 1 1 = 1", "reads 2 = 1");
    }

    private static void copy() {
        Script s = new Script("promise 32");
        s.say("copy 4 0 0 0 0 = BAD", "copy 0 0 4 0 0 = BAD", "copy -1 0 0 0 0 = BAD", "copy 0 0 -1 0 0 = BAD", "copy 0 0 0 0 0 = NOTHING",
            "sheet 0 0 5 = 5", "copy 0 0 1 0 0 = NOTHING", "copy 1 0 0 0 0 = NOTHING", "sheet 1 1 5 = 5", "copy 0 0 1 0 0 = KIND",
            "copy 0 9 1 9 9 = KIND", "sheet 2 0 3 = 3");
        for (int i = 0; i < 5; i++) {
            s.say("mark 0 " + i + " " + (i + 1) + " = 1");
        }
        s.say("copy 0 5 2 3 0 = 0", "copy 0 6 2 0 0 = INDEX", "copy 0 0 2 4 0 = INDEX", "copy 0 -1 2 0 1 = INDEX",
            "copy 0 0 2 -1 1 = INDEX", "copy 0 0 2 0 4 = INDEX", "copy 0 3 2 0 3 = INDEX", "copy 0 0 2 1 3 = INDEX",
            "copy 0 0 2 0 -1 = INDEX", "copy 0 MAX 2 MAX MAX = INDEX", "copy 0 1 2 0 MAX = INDEX", "copy 0 MIN 2 MIN MIN = INDEX");
        s.say("lay 0 2 2 = 0", "item 0 0 = 0", "copy 0 2 2 1 2 = 2", "lay 0 2 2 = 2", "item 0 0 = 0", "item 0 1 = 3", "item 0 2 = 4");
        // onto itself, both ways, as they were
        s.say("copy 0 0 0 1 4 = 4", "lay 1 2 0 = 0", "item 1 0 = 1", "item 1 1 = 1", "item 1 2 = 2", "item 1 3 = 3", "item 1 4 = 4");
        s.say("copy 0 2 0 1 3 = 3", "lay 1 2 0 = 2", "item 1 0 = 1", "item 1 1 = 2", "item 1 2 = 3", "item 1 3 = 4", "item 1 4 = 4");
        s.say("mark 1 4 NONE = 1", "sheet 3 1 1 = 1", "copy 1 4 3 0 1 = 1", "lay 2 2 3 = 0", "item 2 0 = KIND");
    }

    private static void lay() {
        Script s = new Script("promise 33");
        s.say("lay 5 0 0 = BAD", "lay -1 0 0 = BAD", "lay 0 4 0 = BAD", "lay 0 -1 0 = BAD", "lay 0 1 0 = BAD", "lay 0 2 4 = BAD",
            "lay 0 2 -1 = BAD", "lay 0 2 0 = NOTHING", "lay 5 2 0 = BAD", "lay 0 0 MIN = 0", "lay 4 3 MIN = 0", "rest 4 -1 = 0",
            "lay 4 2 0 = NOTHING", "rest 4 MAX = -1", "roof 1 2 = 0", "lay 0 1 1 = BAD", "lay 0 1 -1 = BAD", "lay 0 1 0 = 0");
        s.say("sheet 0 0 1 = 1", "lay 0 2 0 = 1", "mark 0 0 9 = 1", "item 0 0 = 0", "sheet 0 -1 0 = 0", "item 0 0 = 0", "lay 0 3 7 = 2",
            "lay 0 0 7 = 3", "lay 0 0 7 = 0", "rest 0 1 = NOTHING");
        // an image does not touch what a slot holds
        s.say("lay 1 1 0 = 0", "keep = 1", "set 0 1 9 = 2", "lay 2 1 0 = 0", "turns 0 2 = 1", "back = 1", "ask 1 1 = 5", "ask 2 1 = 12");
    }

    private static void ask() {
        Script s = new Script("promise 34");
        s.say("ask 5 0 = BAD", "ask -1 0 = BAD", "ask 0 6 = BAD", "ask 0 -1 = BAD", "ask 0 0 = NOTHING", "lay 0 3 5 = 0", "ask 0 0 = KIND",
            "sheet 0 0 1 = 1", "lay 0 2 0 = 3", "ask 0 0 = KIND", "ask 0 6 = BAD");
        String[] under = {"0", "01", "02", "013", "024", "05"};
        int[] worth = {6, 9, 14, 18, 12, 30};
        for (int kind = 0; kind < 6; kind++) {
            s.say("roof " + kind + " 6 = " + kind, "lay 1 1 " + kind + " = " + (kind == 0 ? 0 : 1));
            for (int k = 0; k < 6; k++) {
                boolean of = under[kind].indexOf('0' + k) >= 0;
                s.say("ask 1 " + k + " = " + (of ? "" + worth[kind] : "KIND"));
            }
        }
    }

    private static void item() {
        Script s = new Script("promise 35");
        s.say("item 5 0 = BAD", "item -1 0 = BAD", "item 0 0 = NOTHING", "item 0 -1 = NOTHING", "lay 0 3 1 = 0", "item 0 -1 = KIND",
            "roof 0 1 = 0", "lay 1 1 0 = 0", "item 1 0 = KIND", "sheet 0 1 2 = 2", "mark 0 1 NONE = 1", "lay 2 2 0 = 0", "item 2 0 = 0",
            "item 2 1 = KIND", "item 2 2 = INDEX", "item 2 -1 = INDEX", "item 2 MIN = INDEX", "sheet 1 0 0 = 0", "lay 3 2 1 = 0",
            "item 3 0 = INDEX");
    }

    private static void rest() {
        Script s = new Script("promise 36");
        s.say("rest 5 1 = BAD", "rest -1 0 = BAD", "rest 0 0 = NOTHING", "roof 0 1 = 0", "lay 0 1 0 = 0", "rest 0 0 = KIND",
            "sheet 0 0 1 = 1", "lay 1 2 0 = 0", "rest 1 1 = KIND", "lay 2 3 17 = 0", "rest 2 5 = 2", "rest 2 -5 = 2", "rest 2 0 = NO",
            "lay 2 3 -17 = 3", "rest 2 5 = -2", "rest 2 -5 = -2", "lay 2 3 MIN = 3", "rest 2 -1 = 0", "rest 2 MIN = 0", "rest 2 10 = -8");
    }
}
