/** The end of part 5 of Terms, promises 37 to 41, and how long an object is used: each sentence at its bounds. */
final class SentencesOfImages {
    private SentencesOfImages() {
    }

    static void all() {
        tell();
        hoursTold();
        check();
        checkOfThirty();
        checkNearTheLastHour();
        checkRefused();
        image();
        keepAndBack();
        count();
        manyCalls();
    }

    private static Script tells(Script s, int many) {
        for (int i = 1; i <= many; i++) {
            s.say("tell 0 = " + i);
        }
        return s;
    }

    private static void tell() {
        Script s = Document.promise(37, "One more number waits: how many.").say("tell MIN = 1", "tell MAX = 2", "tell 0 = 3",
            "tell NONE = 4", "tell BAD = 5").leaves("count 6 = 5");
        s.say("check 1 = NO", "tell 1 = 1");
        Script full = tells(Document.promise(37, "FULL: 60 wait."), 58).leaves("count 6 = 58").say("tell 0 = 59", "tell 0 = 60");
        full.leaves("tell 0 = FULL", "tell 5 = FULL", "tell MIN = FULL", "count 6 = 60").say("keep = 0");
        // the sixty are still those that came first
        full.leaves("tell 7 = FULL").say("check 30 = 0").leaves("count 6 = 0").say("tell 0 = 1");
    }

    /** Roofs with 24 kilos of water behind hour 1, and a street with 20, 15 and 25 kilos of snow behind hours 0, 1 and 2. */
    private static Script town(Script s) {
        return s.say("roof 0 5 = 0", "roof 2 3 = 1", "weather 0 0 -1 = 0", "weather 0 1 2 = 0", "weather 1 0 1 = 0", "weather 1 1 3 = 0",
            "weather 2 0 -2 = 0", "weather 2 1 1 = 0", "keep = 2");
    }

    private static Script told(Script s, int... numbers) {
        for (int i = 0; i < numbers.length; i++) {
            s.say("tell " + numbers[i] + " = " + (i + 1));
        }
        return s;
    }

    private static void hoursTold() {
        String words = "THE HOURS TOLD: of n HOURS, one behind the other, by THE IMAGE: WATER of all ROOFS, together; THE STREET's SNOW, "
            + "behind each.";
        Script s = town(Document.term(5, words));
        told(s, 0, 20, 24, 15, 24, 25).say("check 3 = 0");
        // by THE IMAGE: not as it is now, which has gone on
        s.say("run 1 = 0", "roof 0 9 = 2", "weather 1 1 9 = 3", "sunset 0 = 18").reads("melt 99", 0);
        told(s, 0, 20, 24, 15, 24, 25).say("check 3 = 0", "count 1 = 1", "keep = 3");
        told(s, 0, 20).say("check 1 = 1", "back = 3", "count 1 = 1");
        // a law that was told ahead of the image counts there
        Script law = town(Document.term(5, words)).reads("owner 1", 0).say("keep = 2").reads("owner 0", 1);
        told(law, 0, 20, 32, 15).say("check 2 = 0", "back = 2", "run 2 = 0", "count 3 = 32", "kilos 0 = 15");
    }

    private static void check() {
        String words = "The numbers that wait (none do then, whatever is answered) are THE HOURS TOLD of n (1 .. 30; fewer, if THE HOUR "
            + "would be above 9999), two by two: 0; else 1 and how many stand right ahead of the first that is not (or is missing, or one "
            + "too many).";
        int[] right = {0, 20, 24, 15, 24, 25};
        for (int n = 1; n <= 3; n++) {
            // so many of the right ones, up to some too many
            for (int many = 0; many <= 6; many++) {
                int due = many == 2 * n ? 0 : 1 + Math.min(many, 2 * n);
                Script s = town(Document.promise(38, words));
                told(s, java.util.Arrays.copyOf(right, many)).say("check " + n + " = " + due).leaves("count 6 = 0")
                    .isAs(town(new Script("none told")));
            }
            // one that is not, by 1 more or less, each in its turn
            for (int wrong = 0; wrong < 2 * n; wrong++) {
                for (int by = -1; by <= 1; by += 2) {
                    int[] numbers = java.util.Arrays.copyOf(right, 2 * n);
                    numbers[wrong] += by;
                    told(town(Document.promise(38, words)), numbers).say("check " + n + " = " + (1 + wrong)).leaves("count 6 = 0");
                }
            }
        }
        // of several faults the first
        told(town(Document.promise(38, words)), 0, 21, 24, 16).say("check 2 = 2");
        told(town(Document.promise(38, words)), 0, 20, 25).say("check 1 = 3");
        told(town(Document.promise(38, words)), 5, 20, 24).say("check 1 = 1");
    }

    private static void checkOfThirty() {
        String words = "THE HOURS TOLD of n (1 .. 30;";
        for (int n : new int[] {1, 2, 29, 30}) {
            for (int many : new int[] {2 * n - 1, 2 * n, Math.min(60, 2 * n + 1)}) {
                int due = many == 2 * n ? 0 : 1 + Math.min(many, 2 * n);
                tells(Document.promise(38, words).say("keep = 0"), many).say("check " + n + " = " + due, "count 6 = 0");
            }
        }
    }

    private static void checkNearTheLastHour() {
        String words = "fewer, if THE HOUR would be above 9999)";
        for (int left = 0; left <= 2; left++) {
            for (int n = 1; n <= 3; n++) {
                int hours = Math.min(left, n);
                for (int many = 0; many <= 6; many++) {
                    int due = many == 2 * hours ? 0 : 1 + Math.min(many, 2 * hours);
                    tells(Skies.wait(Document.promise(38, words), 9999 - left).say("keep = 0"), many)
                        .say("check " + n + " = " + due, "count 6 = 0", "count 1 = " + (9999 - left));
                }
            }
        }
        tells(Skies.wait(Document.promise(38, words), 9969).say("keep = 0"), 60).say("check 30 = 0");
        tells(Skies.wait(Document.promise(38, words), 9970).say("keep = 0"), 60).say("check 30 = 59");
        tells(Skies.wait(Document.promise(38, words), 9970).say("keep = 0"), 58).say("check 30 = 0");
        // it is THE HOUR of the image that counts
        tells(Skies.wait(Document.promise(38, words).say("keep = 0"), 9999), 4).say("check 2 = 0");
    }

    private static void checkRefused() {
        String words = "BAD; NO: there is no IMAGE.";
        Script none = new Script("none told").say("roof 0 1 = 0");
        for (String n : new String[] {"0", "31", "-1", "MIN", "MAX"}) {
            Document.promise(38, words).say("roof 0 1 = 0", "tell 5 = 1", "tell 6 = 2", "check " + n + " = BAD", "count 6 = 0").isAs(none);
            told(town(Document.promise(38, words)), 0, 20, 3).say("check " + n + " = BAD", "count 6 = 0")
                .isAs(town(new Script("none told")));
        }
        for (String n : new String[] {"1", "2", "29", "30"}) {
            Document.promise(38, words).say("roof 0 1 = 0", "tell 5 = 1", "tell 6 = 2", "check " + n + " = NO", "count 6 = 0").isAs(none);
        }
        Document.promise(38, words).leaves("check 1 = NO", "check 30 = NO", "check 0 = BAD", "check 31 = BAD").say("keep = 0")
            .leaves("check 1 = 1", "check 0 = BAD", "check 31 = BAD");
    }

    private static void image() {
        String words = "AN IMAGE keeps all but SHEETS, SLOTS, numbers that wait, THE TAPE; all can become as it is (again and again).";
        Script kept = new Script("kept");
        Script s = Document.term(5, words);
        for (Script x : new Script[] {kept, s}) {
            Skies.snowyStreet(x).say("roof 3 2 = 0", "roof 4 9 = 1", "set 1 2 3 = 0", "set 1 3 5 = 100", "sweep 1 50 = 50",
                "weather 1 0 2 = 0", "weather 1 1 2 = 0", "weather 2 1 1 = 0", "sunset 5 = 18", "seed 9 = 1", "run 2 = 0", "use 0 1 = 1")
                .reads("fine w*7", 0).reads("melt s", 1).say("keep = 2");
        }
        s.isAs(kept);
        for (int again = 0; again < 3; again++) {
            s.say("turns 0 5 = 3", "set 0 1 7 = 2", "set 1 3 0 = 5", "set 1 2 0 = 3").reads("owner 1", 2).reads("fine 3", 3);
            s.call("sweep", 0, 9);
            s.say("use 0 2 = 2");
            s.call("sky");
            s.call("deal", 8);
            s.call("sunset", again);
            s.call("run", 200);
            s.say("back = 2").isAs(kept);
        }
        // sheets, slots, numbers and the tape stay as they are
        Script other = Document.term(5, words).say("roof 0 1 = 0", "sheet 0 0 1 = 1", "mark 0 0 4 = 1", "lay 0 3 4 = 0", "tell 4 = 1",
            "feed 0 0 0 = 12", "keep = 1", "sheet 0 1 2 = 2", "mark 0 1 NONE = 1", "sheet 1 0 0 = 0", "lay 0 2 0 = 3", "lay 1 3 5 = 0",
            "tell 5 = 2", "feed 0 0 0 = 24");
        other.leaves("back = 1").say("back = 1", "count 6 = 2", "count 7 = 24", "item 0 1 = KIND", "rest 1 10 = 5", "mark 1 0 0 = INDEX",
            "trim 24 = 24");
    }

    private static void keepAndBack() {
        Script keep = Document.promise(39, "AN IMAGE is kept: how many ROOFS.").say("keep = 0", "roof 0 1 = 0", "keep = 1")
            .leaves("keep = 1").say("deal 8 = 7", "keep = 8", "back = 8").leaves("count 0 = 8");
        keep.say("run 5 = 0", "keep = 8").leaves("count 1 = 5", "back = 8");
        Script back = Document.promise(40, "All is as THE IMAGE: how many ROOFS.").say("keep = 0", "roof 0 1 = 0", "back = 0")
            .leaves("count 0 = 0", "told 0 0 = BAD", "back = 0").say("deal 8 = 8", "back = 0");
        back.leaves("count 0 = 0", "count 8 = 1").say("roof 2 2 = 0", "keep = 1", "back = 1").leaves("told 0 0 = 2", "back = 1");
        Document.promise(40, "NO: there is none.").leaves("back = NO").say("roof 0 1 = 0", "run 3 = 0").leaves("back = NO").say("keep = 1")
            .leaves("back = 1").say("run 1 = 0", "back = 1", "count 1 = 3");
    }

    private static void count() {
        Script s = Document.promise(41,
            "How many: 0 ROOFS, 1 THE HOUR, 2 SUNSET, 3 WATER of all ROOFS, together, "
                + "4 SNOW of all ROOFS, 5 TEXTS, 6 numbers that wait, 7 bytes of THE TAPE, 8 z.");
        s.leaves("count 0 = 0", "count 3 = 0", "count 4 = 0");
        Skies.snowyStreet(s).say("roof 0 9 = 0", "roof 2 1 = 1", "sweep 0 3 = 3", "sweep 1 4 = 4", "weather 1 0 1 = 0", "weather 1 1 2 = 0")
            .reads("melt 0", 0).reads("fine 0", 1).say("run 1 = 0", "sunset 9 = 18", "seed -5 = 1", "tell 1 = 1", "tell 1 = 2",
            "tell 1 = 3", "feed 0 0 0 = 12", "trim 5 = 5");
        s.leaves("count 0 = 2", "count 1 = 2", "count 2 = 9", "count 3 = 20", "count 4 = 7", "count 5 = 2", "count 6 = 3", "count 7 = 5",
            "count 8 = -5");
        Document.promise(41, "BAD.").outside("count #", 0, 8).say("roof 0 1 = 0", "tell 1 = 1").outside("count #", 0, 8);
    }

    private static void manyCalls() {
        Script s = Document.says("What it is",
            "An object is used for at most 512 calls after it has been made; what later calls answer is free.");
        for (int i = 1; i <= 255; i++) {
            s.say("run 1 = 0", "seed " + i + " = " + (i == 1 ? 1 : i - 1));
        }
        s.say("count 1 = 255", "count 8 = 255");
    }
}
