/** Promises 37 to 41. */
public final class ImagesTest {
    public static void main(String[] args) {
        tell();
        check();
        checkNearTheLastHour();
        keepAndBack();
        textsOfAnImage();
        refusedChangesNothing();
        Due.end();
    }

    private static void tell() {
        Script s = new Script("promise 37");
        for (int i = 1; i <= 60; i++) {
            s.say("tell " + 7 * i + " = " + i);
        }
        s.say("tell 0 = FULL", "tell MIN = FULL", "count 6 = 60", "check 1 = NO", "count 6 = 0", "tell MIN = 1", "check 0 = BAD",
            "count 6 = 0");
    }

    private static void check() {
        Script s = new Script("promise 38");
        s.say("check 0 = BAD", "check 31 = BAD", "check -1 = BAD", "check 1 = NO", "roof 0 5 = 0", "roof 2 3 = 1",
            "weather 0 0 -1 = 0", "weather 0 1 2 = 0", "weather 1 0 1 = 0", "weather 1 1 3 = 0", "weather 2 0 -2 = 0",
            "weather 2 1 1 = 0", "keep = 2");
        // behind the hours: water 0, snow 20; then 24 and 15; then 24 and 25
        s.say("check 1 = 1", "tell 0 = 1", "check 1 = 2", "tell 0 = 1", "tell 20 = 2", "check 1 = 0", "count 6 = 0",
            "tell 0 = 1", "tell 20 = 2", "check 2 = 3", "tell 0 = 1", "tell 20 = 2", "tell 24 = 3", "check 1 = 3",
            "tell 0 = 1", "tell 20 = 2", "tell 24 = 3", "check 2 = 4", "tell 0 = 1", "tell 21 = 2", "tell 24 = 3", "check 1 = 2",
            "tell 1 = 1", "check 1 = 1");
        s.say("tell 0 = 1", "tell 20 = 2", "tell 24 = 3", "tell 15 = 4", "tell 24 = 5", "tell 25 = 6", "check 3 = 0");
        s.say("tell 0 = 1", "tell 20 = 2", "tell 24 = 3", "tell 15 = 4", "tell 24 = 5", "tell 24 = 6", "check 3 = 6");
        // by the image, not by what is now, which stays as it is
        s.say("run 2 = 0", "set 0 1 9 = 5", "tell 0 = 1", "tell 20 = 2", "check 1 = 0", "count 1 = 2", "told 0 1 = 9", "kilos 0 = 15",
            "tell 0 = 1", "tell 20 = 2", "check 31 = BAD", "count 6 = 0", "check 1 = 1");
        Script t = new Script("promise 38, thirty");
        t.say("keep = 0");
        for (int i = 1; i <= 60; i++) {
            t.say("tell 0 = " + i);
        }
        t.say("check 30 = 0");
        for (int i = 1; i <= 60; i++) {
            t.say("tell 0 = " + i);
        }
        t.say("check 29 = 59");
    }

    private static void checkNearTheLastHour() {
        Script s = new Script("promise 38, hour 9999");
        for (int i = 1; i <= 49; i++) {
            s.say("run 200 = 0");
        }
        s.say("run 198 = 0", "count 1 = 9998", "keep = 0", "tell 0 = 1", "tell 0 = 2", "check 30 = 0", "tell 0 = 1", "check 30 = 2",
            "tell 0 = 1", "tell 0 = 2", "tell 0 = 3", "check 30 = 3", "run 1 = 0", "keep = 0", "check 1 = 0", "check 30 = 0", "tell 0 = 1",
            "check 1 = 1", "check 1 = 0");
    }

    private static void keepAndBack() {
        Script s = new Script("promises 39 and 40");
        s.say("back = NO", "keep = 0", "roof 0 5 = 0", "back = 0", "count 0 = 0", "roof 1 3 = 0", "roof 2 9 = 1", "set 0 2 1 = 0",
            "set 0 3 200 = 100", "weather 0 0 -2 = 0", "weather 0 1 9 = 0", "weather 1 0 2 = 0", "weather 1 1 1 = 0", "sunset 5 = 18",
            "seed 44 = 1", "run 2 = 0", "sweep 0 3 = 3", "use 0 1 = 1", "keep = 2");
        int[] before = look(s);
        s.call("sky");
        s.say("back = 2");
        same(before, look(s));
        s.call("deal", 8);
        s.call("sky");
        s.call("run", 100);
        s.call("sunset", 1);
        s.call("set", 0, 3, 0);
        s.call("turns", 1, 5);
        s.say("back = 2");
        same(before, look(s));
        // sheets, slots, the tape and numbers that wait are not of it
        s.say("sheet 0 0 2 = 2", "mark 0 1 5 = 1", "lay 0 3 8 = 0", "tell 4 = 1", "feed 0 0 0 = 12", "back = 2", "count 6 = 1",
            "count 7 = 12", "rest 0 5 = 3", "lay 1 2 0 = 0", "item 1 1 = 5", "keep = 2", "count 6 = 1", "count 7 = 12");
        // a later image takes the place of the first
        s.say("roof 0 1 = 2", "keep = 3", "roof 0 1 = 3", "back = 3", "back = 3", "count 0 = 3");
    }

    private static int[] look(Script s) {
        int[] seen = new int[200];
        int n = 0;
        for (int what : new int[] {0, 1, 2, 3, 4, 5, 8}) {
            seen[n++] = s.call("count", what);
        }
        for (int what = 0; what < 7; what++) {
            seen[n++] = s.call("kilos", what);
        }
        for (int roof = 0; roof < 8; roof++) {
            for (int what = 0; what < 11; what++) {
                seen[n++] = s.call("told", roof, what);
            }
        }
        for (int hours : new int[] {1, 30, 200}) {
            for (int what = 0; what < 4; what++) {
                seen[n++] = s.call("behind", 0, hours, what);
            }
        }
        for (int key = 0; key < 3; key++) {
            seen[n++] = s.call("why", key);
        }
        return seen;
    }

    private static void same(int[] before, int[] now) {
        Due.holds("all is as it was", java.util.Arrays.equals(before, now));
    }

    private static void textsOfAnImage() {
        Script s = new Script("promise 40, texts");
        s.say("roof 0 2 = 0").reads("fine 11", 0).reads("melt 3", 1).say("keep = 1").reads("fine 22", 2).reads("owner 1", 3);
        s.say("fine 0 = 22", "told 0 9 = 1", "back = 1", "count 5 = 2", "fine 0 = 11", "told 0 9 = 0", "why 1 = NONE", "why 2 = 0",
            "textTold 2 0 = BAD").reads("owner h", 2).say("textTold 2 0 = 1", "fine 0 = 11", "back = 1", "why 1 = NONE");
        // the image's law counts in check, whatever has been told since
        s.say("weather 0 0 -1 = 0", "weather 0 1 5 = 0", "sunset 0 = 18", "keep = 1").reads("melt 0", 2);
        s.say("tell 3 = 1", "tell 50 = 2", "check 1 = 0", "told 0 7 = 0", "behind 0 1 0 = 0", "back = 1", "behind 0 1 0 = 3");
    }

    private static void refusedChangesNothing() {
        Script s = new Script("refused");
        s.say("seed 9 = 1", "deal 5 = 5");
        s.call("sky");
        s.call("run", 20);
        int[] before = look(s);
        s.say("roof 6 1 = BAD", "told 5 0 = BAD", "turns 0 6 = BAD", "set 0 3 1000 = BAD", "set 0 1 0 = BAD", "sweep 0 0 = BAD",
            "use 0 0 = BAD", "deal 0 = BAD", "weather 0 0 21 = BAD", "sunset 25 = BAD", "run 0 = BAD", "behind 0 201 0 = BAD",
            "best 0 73 0 = BAD", "leastRoom 0 201 = BAD", "gains 0 73 = BAD", "explained 0 0 = NOTHING", "fine 5 = BAD", "trim 1 = BAD",
            "text = -100", "why 3 = BAD", "sheet 0 0 25 = BAD", "mark 0 0 0 = NOTHING", "pour 0 = NOTHING", "lay 0 1 5 = BAD",
            "check 31 = BAD", "back = NO", "count 9 = BAD");
        same(before, look(s));
        // what is only thought changes nothing either
        s.call("best", 0, 72, 0);
        s.call("gains", 3, 72);
        s.call("slide");
        s.call("leastRoom", 1, 200);
        s.say("sheet 0 0 24 = 24");
        s.call("explained", 0, 0);
        same(before, look(s));
    }
}
