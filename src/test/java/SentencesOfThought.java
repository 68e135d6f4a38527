/** Part 3 of Terms and promises 16 to 22: each sentence at its bounds and on both sides of them. */
final class SentencesOfThought {
    private SentencesOfThought() {
    }

    static void all() {
        onlyThought();
        behind();
        best();
        leastRoom();
        leastRoomOf99999();
        slide();
        gains();
        explained();
        explainedEdges();
        fine();
        refused();
    }

    private static void onlyThought() {
        String words = "(All this is only thought, from now on, without the bound of THE HOUR: nothing changes.)";
        for (int hour : new int[] {0, 9998, 9999}) {
            Script s = Skies.wait(Document.term(3, words), hour).say("roof 0 2 = 0", "sheet 0 0 4 = 4", "mark 0 1 10 = 1",
                "mark 0 2 20 = 1", "mark 0 3 30 = 1");
            Skies.all(s, 1, 1).leaves("behind 0 0 0 = 0", "behind 0 1 0 = 2", "behind 0 2 0 = 4", "behind 0 3 0 = 6", "behind 0 50 0 = 100",
                "behind 0 51 0 = 100", "behind 0 51 3 = 2", "behind 0 200 2 = 2000", "best 0 72 0 = 0", "best 0 72 1 = 100",
                "leastRoom 0 200 = 400", "slide = NONE", "gains 0 72 = 0", "explained 0 0 = 0", "explained 0 1 = 0");
            s.say("count 1 = " + hour, "told 0 4 = 0", "kilos 6 = 0");
        }
        // snow that slides, and that one gains by, behind THE HOUR 9999 too
        for (int[] d : new int[][] {{1, 144}, {9985, 144}, {9999, 130}}) {
            int hour = d[0];
            Script s = Skies.snowyStreet(Document.term(3, words));
            for (int left = hour - 1; left > 0; left -= 200) {
                s.call("run", Math.min(200, left));
            }
            s.say("count 1 = " + hour, "roof 0 1 = 0", "roof 1 1 = 1", "sweep 0 5 = 5", "sweep 1 11 = 11");
            int day = hour % 24;
            s.say("weather " + day + " 0 1 = 0").leaves("slide = 1", "gains 0 1 = 0", "behind 1 1 1 = 0", "behind 0 1 1 = 4")
                .say("turns 1 2 = 1");
            // 9 kilos come each day and 1 melts: the sixth day brings the plain roof above 50
            s.leaves("slide = " + d[1], "gains 0 1 = 0", "behind 1 1 1 = 10");
        }
    }

    private static void behind() {
        // rain of 1 at hour 0 (which melts 1 of the roof and 5 of the street), snow of 1 at hour 1
        String[] rows = {"behind 0 0 0 = 0", "behind 0 0 1 = 0", "behind 0 0 2 = 0", "behind 0 0 3 = 0", "behind 0 1 0 = 1",
            "behind 0 1 1 = 0", "behind 0 1 2 = 10", "behind 0 2 1 = 1", "behind 0 2 2 = 10", "behind 0 24 0 = 1", "behind 0 24 1 = 1",
            "behind 0 25 0 = 2", "behind 0 25 1 = 0", "behind 0 25 2 = 26", "behind 0 49 0 = 3", "behind 0 49 3 = 0", "behind 0 73 0 = 3",
            "behind 0 73 3 = 1", "behind 0 192 2 = 122", "behind 0 192 3 = 5", "behind 0 193 2 = 138", "behind 0 193 3 = 6",
            "behind 0 193 1 = 0", "behind 0 194 1 = 1", "behind 0 199 1 = 1", "behind 0 200 0 = 3", "behind 0 200 1 = 1",
            "behind 0 200 2 = 138", "behind 0 200 3 = 6"};
        String[] sky = {"roof 0 1 = 0", "set 0 3 3 = 100", "weather 0 0 1 = 0", "weather 0 1 1 = 0", "weather 1 0 -1 = 0",
            "weather 1 1 1 = 0"};
        Document.term(3, "BEHIND n HOURS of a ROOF: WATER; SNOW; THE STREET's WATER; LOST.").say(sky).leaves(rows);
        Document.promise(16, "BEHIND n (0 .. 200) HOURS of a ROOF: what 0 WATER, 1 SNOW, 2 THE STREET's WATER, 3 LOST.").say(sky)
            .leaves(rows).say("run 200 = 0").leaves("told 0 4 = 3", "told 0 5 = 1", "kilos 1 = 138", "kilos 3 = 6", "behind 0 0 0 = 3",
            "behind 0 0 1 = 1", "behind 0 0 2 = 138", "behind 0 0 3 = 6");
    }

    private static void best() {
        String words = "BEST HEAT of a ROOF for n: HEAT 0 .. 9 with which its WATER behind n HOURS, less n times HEAT, is greatest; of "
            + "several the least.";
        // SIZE 2 in air of 0: twice HEAT melts, SNOW at most
        int[][] due = {{1, 0, 0}, {2, 1, 1}, {3, 1, 1}, {4, 2, 2}, {16, 8, 8}, {17, 8, 8}, {18, 9, 9}, {19, 9, 9}, {20, 9, 9}};
        for (int[] d : due) {
            Script s = Skies.snowyStreet(Document.term(3, words)).say("sunset 0 = 18", "roof 0 2 = 0", "roof 0 9 = 1");
            s.leaves("best 0 1 0 = 0", "best 0 1 1 = 0").say("sweep 0 " + d[0] + " = " + d[0]);
            s.leaves("best 0 1 0 = " + d[1], "best 0 1 1 = " + d[2], "best 1 1 0 = 0", "best 1 1 1 = 0");
            s.say("set 0 2 5 = 0", "set 1 2 9 = 0").leaves("best 0 1 0 = " + d[1], "best 0 1 1 = " + d[2], "best 1 1 0 = 0");
        }
        String row = "BEST HEAT of a ROOF for n (1 .. 72): what 0 HEAT, 1 WATER then, less n times HEAT.";
        Script far = Skies.snowyStreet(Document.promise(17, row)).say("weather 0 1 0 = 9", "weather 0 0 0 = -1", "sunset 0 = 18",
            "roof 0 9 = 0", "sweep 0 90 = 90");
        far.leaves("best 0 1 0 = 9", "best 0 1 1 = 72", "best 0 2 0 = 5", "best 0 2 1 = 80", "best 0 71 0 = 1", "best 0 71 1 = 19",
            "best 0 72 0 = 1", "best 0 72 1 = 18").say("use 0 1 = 0", "sunset 24 = 0").leaves("best 0 72 0 = 0", "best 0 72 1 = 0",
            "best 0 1 0 = 0");
        // ROOM holds it: what is LOST pays nothing
        far.say("sunset 0 = 24", "set 0 3 9 = 100").leaves("best 0 1 0 = 1", "best 0 1 1 = 8").say("set 0 3 10 = 9")
            .leaves("best 0 1 0 = 1", "best 0 1 1 = 8").say("set 0 3 11 = 10").leaves("best 0 1 0 = 2", "best 0 1 1 = 9")
            .say("set 0 3 0 = 11").leaves("best 0 1 0 = 0", "best 0 1 1 = 0");
    }

    private static void leastRoom() {
        String words = "LEAST ROOM of a ROOF for n: the greatest WATER that it has behind any of n HOURS (or now), if its ROOM were 99999.";
        String row = "LEAST ROOM of a ROOF for n (0 .. 200).";
        for (int room : new int[] {0, 1, 2, 999}) {
            Script s = Document.term(3, words).say("roof 0 2 = 0", "roof 0 9 = 1", "set 0 3 " + room + " = 100", "weather 0 0 1 = 0",
                "weather 0 1 1 = 0");
            s.leaves("leastRoom 0 0 = 0", "leastRoom 0 1 = 2", "leastRoom 0 24 = 2", "leastRoom 0 25 = 4", "leastRoom 1 25 = 18");
        }
        Script now = Document.promise(18, row).say("roof 0 2 = 0", "weather 0 0 1 = 0", "weather 0 1 1 = 0", "run 1 = 0");
        now.leaves("leastRoom 0 0 = 2", "leastRoom 0 1 = 2", "leastRoom 0 23 = 2", "leastRoom 0 24 = 4", "leastRoom 0 191 = 16",
            "leastRoom 0 192 = 18", "leastRoom 0 199 = 18", "leastRoom 0 200 = 18").say("set 0 3 1 = 100", "told 0 4 = 1")
            .leaves("leastRoom 0 0 = 1", "leastRoom 0 24 = 3");
    }

    /** Seven LEANING roofs feed the last one, which melts all that comes: 72 in an odd hour, 1206 in an even one. */
    private static void leastRoomOf99999() {
        String words = "if its ROOM were 99999.";
        for (int had : new int[] {313, 314, 315, 316}) {
            Script s = Document.term(3, words);
            for (int i = 0; i < 7; i++) {
                s.say("roof 3 9 = " + i);
            }
            s.say("roof 2 8 = 7", "set 7 3 999 = 100");
            for (int h = 0; h < 5; h++) {
                s.say("weather " + h + " 0 1 = 0", "weather " + h + " 1 8 = 0");
            }
            s.say("run 5 = 0", "told 7 4 = 320", "use 7 " + (320 - had) + " = " + (320 - had)).reads("melt (z=8)*9999", 0)
                .reads("owner 1", 1);
            Skies.all(s, -1, 9).leaves("leastRoom 7 0 = " + had, "leastRoom 7 1 = " + (had + 72), "leastRoom 7 2 = " + (had + 1278),
                "leastRoom 7 155 = " + (had + 98478), "leastRoom 7 156 = " + Math.min(99999, had + 99684), "leastRoom 7 200 = 99999");
        }
    }

    private static void slide() {
        String words = "FIRST SLIDE: behind how many HOURS (1 .. 200) some ROOF slides first.";
        Document.term(3, words).leaves("slide = NONE");
        // 10 lie on it, and 1 more comes each day at the hour; the slide is of the first 11
        for (int h = 1; h <= 3; h++) {
            Skies.snowyStreet(Document.term(3, words)).say("weather 0 1 0 = 9", "roof 2 1 = 0", "roof 1 1 = 1", "sweep 1 10 = 10",
                "weather " + h + " 0 -1 = 0", "weather " + h + " 1 1 = 0").leaves("slide = " + h);
        }
        Skies.snowyStreet(Document.term(3, words)).say("roof 0 1 = 0", "roof 1 1 = 1", "sweep 1 11 = 11").leaves("slide = 1")
            .say("turns 1 0 = 1").leaves("slide = 120");
        // 2 lie on it: the ninth day brings the eleventh, behind 192 hours and those up to the hour
        for (int h = 6; h <= 9; h++) {
            Script s = Skies.snowyStreet(Document.promise(19, h < 9 ? "FIRST SLIDE." : "NONE: not by then."))
                .say("weather 0 1 0 = 9", "roof 1 1 = 0", "sweep 0 2 = 2", "weather " + h + " 0 -1 = 0", "weather " + h + " 1 1 = 0");
            s.leaves("slide = " + (h < 9 ? "" + (192 + h) : "NONE"));
        }
        // with no bound of THE HOUR, and with 8 roofs the last of which slides
        Script last = Skies.wait(Document.promise(19, "FIRST SLIDE."), 9984).say("weather 3 0 -1 = 0", "weather 3 1 6 = 0");
        for (int i = 0; i < 8; i++) {
            last.say("roof " + (i < 7 ? 2 : 1) + " 1 = " + i);
        }
        last.leaves("slide = 28").say("turns 7 0 = 1").leaves("slide = 196").say("turns 7 4 = 0").leaves("slide = NONE");
    }

    private static void gains() {
        String words = "GAINS by v for n: the ROOF whose WATER behind n HOURS is by most more, if SUNSET is v, than as it is; of several "
            + "the least.";
        // in hour 1 melt 4, 8, 8 and 2 kilos
        Script s = Skies.snowyStreet(Document.term(3, words)).say("weather 0 1 0 = 9", "weather 0 0 0 = -1", "weather 1 0 2 = 0",
            "roof 0 2 = 0", "roof 0 4 = 1", "roof 2 4 = 2", "roof 0 1 = 3", "sweep 0 10 = 10", "sweep 1 10 = 10", "sweep 2 10 = 10",
            "sweep 3 10 = 10");
        s.leaves("gains 0 1 = 1", "gains 1 1 = 1", "gains 2 1 = 0", "gains 3 1 = 0", "gains 18 1 = 0", "gains 24 1 = 0");
        s.say("set 1 3 7 = 100").leaves("gains 1 1 = 2").say("set 2 3 7 = 100").leaves("gains 1 1 = 1")
            .say("set 1 3 3 = 7", "set 2 3 4 = 7").leaves("gains 1 1 = 0").say("set 2 3 5 = 4").leaves("gains 1 1 = 2");
        // as it is all own: by another SUNSET that is most more which loses least
        s.say("set 1 3 100 = 3", "set 2 3 100 = 5", "sunset 1 = 18").leaves("gains 2 1 = 3", "gains 24 1 = 3", "gains 1 1 = 0",
            "gains 0 1 = 0");
        s.say("set 0 3 0 = 100").leaves("gains 24 1 = 0").say("set 2 3 0 = 100").leaves("gains 24 1 = 0")
            .say("turns 0 5 = 0", "set 0 3 100 = 0").leaves("gains 24 1 = 2");
        // n at its bounds: snow melts in hour 0 alone, which comes behind 24, 48 and 72 hours
        Script n = Skies.snowyStreet(Document.promise(20, "GAINS by v (0 .. 24) for n (1 .. 72)."))
            .say("weather 0 1 0 = 9", "weather 0 0 1 = -1", "roof 0 1 = 0", "roof 0 2 = 1", "sweep 0 3 = 3", "sweep 1 2 = 2");
        n.leaves("gains 0 1 = 0", "gains 0 23 = 0", "gains 0 24 = 1", "gains 0 47 = 1", "gains 0 48 = 0", "gains 0 71 = 0",
            "gains 0 72 = 0", "gains 1 72 = 0").say("sweep 1 1 = 1", "sweep 0 1 = 1", "set 0 3 2 = 100")
            .leaves("gains 0 24 = 1", "gains 0 71 = 1", "gains 0 72 = 1");
        // among eight, the last one too
        Script eight = Skies.snowyStreet(Document.promise(20, "GAINS by v (0 .. 24) for n (1 .. 72).")).say("weather 1 0 1 = 0");
        for (int i = 0; i < 8; i++) {
            eight.say("roof 0 1 = " + i);
        }
        eight.leaves("gains 0 1 = 0").say("sweep 7 1 = 1").leaves("gains 0 1 = 7").say("sweep 6 1 = 1").leaves("gains 0 1 = 6");
        Document.promise(20, "BAD; NONE: there are no ROOFS.").leaves("gains 0 1 = NONE", "gains 24 72 = NONE").outside("gains # 1", 0, 24)
            .outside("gains 0 #", 1, 72).say("roof 0 1 = 0").leaves("gains 0 1 = 0", "gains 24 72 = 0").outside("gains # 1", 0, 24)
            .outside("gains 0 #", 1, 72);
    }

    private static final String EXPLAINED = "EXPLAINED by a SHEET: the SUNSET 0 .. 24 with which THE STREET's WATER behind k HOURS and "
        + "places k that are numbers (k from 0 on) differ least (signs left out), together; of several the least.";

    private static void explained() {
        String row = "EXPLAINED by a SHEET: what 0 the SUNSET, 1 the differences, together.";
        // in hour 1 the street gets 5 of its snow, and the one kilo that melts, if SUNSET is 2 or more
        Script s = Skies.snowyStreet(Document.term(3, EXPLAINED)).say("roof 0 1 = 0", "sweep 0 5 = 5", "weather 1 0 1 = 0",
            "sheet 0 0 2 = 2");
        int[][] due = {{4, 0, 1}, {5, 0, 0}, {6, 2, 0}, {7, 2, 1}, {-6, 0, 11}, {-32768, 0, 32773}, {32767, 2, 32761}};
        for (int[] d : due) {
            s.say("mark 0 1 " + d[0] + " = 1").leaves("explained 0 0 = " + d[1], "explained 0 1 = " + d[2]);
        }
        // place 0 is now, whatever SUNSET is; signs are left out
        s.say("mark 0 1 6 = 1", "mark 0 0 3 = 1").leaves("explained 0 0 = 2", "explained 0 1 = 3").say("mark 0 0 -3 = 1")
            .leaves("explained 0 0 = 2", "explained 0 1 = 3").say("mark 0 1 7 = 1").leaves("explained 0 1 = 4");
        Script p = Skies.snowyStreet(Document.promise(21, row)).say("roof 0 1 = 0", "sweep 0 5 = 5", "weather 1 0 1 = 0",
            "sheet 1 1 3 = 3");
        p.say("mark 1 1 6 = 1", "mark 1 2 6 = 1").leaves("explained 1 0 = 2", "explained 1 1 = 0").say("mark 1 2 NONE = 1")
            .leaves("explained 1 0 = 2", "explained 1 1 = 0").say("mark 1 1 NONE = 1").leaves("explained 1 0 = 0", "explained 1 1 = 0")
            .say("mark 1 0 99999 = 1", "mark 1 2 -99999 = 1").leaves("explained 1 0 = 0", "explained 1 1 = 200003")
            .say("mark 1 0 NONE = 1", "mark 1 2 99999 = 1").leaves("explained 1 0 = 2", "explained 1 1 = 99993");
    }

    private static void explainedEdges() {
        // hour 23 alone tells SUNSET 24 from those before it, hour 0 alone tells 0 from those behind it
        for (int[] d : new int[][] {{22, 23, 0}, {23, 24, 0}}) {
            Script s = Skies.snowyStreet(Document.term(3, EXPLAINED)).say("roof 0 1 = 0", "sweep 0 5 = 5", "run " + (d[0] - 1) + " = 0",
                "weather " + d[0] + " 0 1 = 0", "sheet 0 0 2 = 2", "mark 0 1 6 = 1");
            s.leaves("explained 0 0 = " + d[1], "explained 0 1 = 0").say("mark 0 1 5 = 1").leaves("explained 0 0 = 0", "explained 0 1 = 0");
        }
        Script zero = Skies.snowyStreet(Document.term(3, EXPLAINED)).say("roof 0 1 = 0", "sweep 0 5 = 5", "run 23 = 0", "weather 0 1 0 = 9",
            "weather 0 0 1 = -1", "sheet 0 0 2 = 2", "mark 0 1 6 = 1");
        zero.leaves("explained 0 0 = 1", "explained 0 1 = 0").say("mark 0 1 5 = 1").leaves("explained 0 0 = 0", "explained 0 1 = 0");
        // rows of 0 and of 24 places: the last place is 23 hours ahead
        Document.term(3, EXPLAINED).say("sheet 0 0 0 = 0", "sheet 1 1 0 = 0", "weather 22 0 1 = 0", "weather 22 1 2 = 0",
            "weather 23 0 1 = 0", "weather 23 1 1 = 0", "sheet 2 0 23 = 23", "sheet 3 0 24 = 24").leaves("explained 0 0 = 0",
            "explained 0 1 = 0", "explained 1 0 = 0", "explained 1 1 = 0", "explained 2 1 = 0", "explained 3 1 = 20")
            .say("mark 3 23 21 = 1").leaves("explained 3 1 = 1");
        // of NO NUMBER alone nothing differs
        Document.term(3, EXPLAINED).say("weather 0 0 1 = 0", "weather 0 1 9 = 0", "run 1 = 0", "sheet 0 1 1 = 1")
            .leaves("explained 0 1 = 90").say("mark 0 0 NONE = 1").leaves("explained 0 0 = 0", "explained 0 1 = 0");
    }

    private static void fine() {
        Script s = Skies.snowyStreet(Document.promise(22, "What fine gives for a ROOF.")).say("roof 2 1 = 0", "roof 2 2 = 1");
        s.leaves("fine 0 = 0", "fine 1 = 0").say("sweep 0 1 = 1").leaves("fine 0 = 1", "fine 1 = 1").say("sweep 1 39 = 39")
            .leaves("fine 0 = 40", "fine 1 = 40");
        s.say("weather 1 0 1 = 0", "weather 1 1 3 = 0", "run 1 = 0").reads("fine w*10+s", 0).leaves("fine 0 = 70", "fine 1 = 100");
        s.say("use 0 3 = 3").leaves("fine 0 = 40").reads("fine 0-s", 1).leaves("fine 0 = -40", "fine 1 = -40").reads("fine 0", 2)
            .leaves("fine 0 = 0");
        Document.promise(22, "BAD.").outside("fine #", 0, -1).say("roof 0 1 = 0").outside("fine #", 0, 0).say("deal 8 = 7")
            .outside("fine #", 0, 7);
    }

    private static void refused() {
        Document.promise(16, "BAD.").outside("behind # 0 0", 0, -1).say("roof 0 1 = 0", "weather 0 0 1 = 0", "weather 0 1 1 = 0",
            "run 1 = 0").outside("behind # 0 0", 0, 0).outside("behind 0 # 0", 0, 200).outside("behind 0 1 #", 0, 3)
            .outside("behind 0 200 #", 0, 3);
        Document.promise(17, "BAD.").outside("best # 1 0", 0, -1).say("roof 0 1 = 0").outside("best # 1 0", 0, 0)
            .outside("best 0 # 0", 1, 72).outside("best 0 # 1", 1, 72).outside("best 0 72 #", 0, 1);
        Document.promise(18, "BAD.").outside("leastRoom # 0", 0, -1).say("roof 0 1 = 0").outside("leastRoom # 0", 0, 0)
            .outside("leastRoom 0 #", 0, 200);
        Script s = Document.promise(21, "BAD; NOTHING.").outside("explained # 0", 0, 3).outside("explained 0 #", 0, 1);
        s.leaves("explained 0 0 = NOTHING", "explained 3 1 = NOTHING", "explained 4 2 = BAD").say("sheet 0 0 0 = 0", "sheet 3 1 24 = 24");
        s.outside("explained # 1", 0, 3).outside("explained 3 #", 0, 1).leaves("explained 0 0 = 0", "explained 2 1 = NOTHING",
            "explained 2 2 = BAD").say("sheet 0 -1 5 = 0").leaves("explained 0 0 = NOTHING");
    }
}
