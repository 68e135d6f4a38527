/** Part 2 of Terms and promises 11 to 15: each sentence at its bounds and on both sides of them. */
final class SentencesOfHours {
    private SentencesOfHours() {
    }

    static void all() {
        hourOfTheDay();
        rain();
        snow();
        hail();
        street();
        slides();
        slidesOntoTheNext();
        melt();
        thaw();
        drawnNumbers();
        weather();
        runs();
        kilos();
    }

    private static void hourOfTheDay() {
        Script s = Document.term(2, "AN HOUR, with AIR a and FALL f of its hour of the day:");
        s.say("weather 0 0 1 = 0", "weather 0 1 1 = 0", "weather 23 0 1 = 0", "weather 23 1 3 = 0", "run 1 = 0", "kilos 1 = 10",
            "run 22 = 0", "kilos 1 = 10", "run 1 = 0", "kilos 1 = 40", "run 1 = 0", "kilos 1 = 50", "run 23 = 0", "kilos 1 = 80",
            "count 1 = 48");
        Document.term(2, "(5) THE HOUR is 1 more.").say("count 1 = 0", "run 1 = 0", "count 1 = 1", "run 1 = 0", "count 1 = 2",
            "run 200 = 0", "count 1 = 202");
    }

    private static void rain() {
        String words = "(1) On each ROOF fall f times SIZE: if a is above 0, WATER is so much more, what is above ROOM is LOST;";
        for (int air : new int[] {1, 2, 20}) {
            // 6 kilos on each
            Document.term(2, words).say("weather 0 0 " + air + " = 0", "weather 0 1 2 = 0", "roof 0 3 = 0", "roof 2 3 = 1", "roof 5 3 = 2",
                "roof 3 3 = 3", "set 0 3 5 = 100", "set 1 3 6 = 100", "set 2 3 7 = 100", "set 3 3 0 = 100", "run 1 = 0", "told 0 4 = 5",
                "told 1 4 = 6", "told 2 4 = 6", "told 3 4 = 0", "kilos 3 = 7", "count 4 = 0", "kilos 2 = 0");
        }
        Document.term(2, words).say("weather 0 0 1 = 0", "weather 1 0 1 = 0", "weather 1 1 1 = 0", "weather 2 0 1 = 0", "weather 2 1 9 = 0",
            "roof 0 1 = 0", "roof 0 9 = 1", "run 1 = 0", "count 3 = 0", "run 1 = 0", "told 0 4 = 1", "told 1 4 = 9", "run 1 = 0",
            "told 0 4 = 10", "told 1 4 = 90", "kilos 3 = 0", "run 24 = 0", "told 1 4 = 100", "kilos 3 = 80");
        // HEAT does not make rain of snow, nor snow of rain
        Document.term(2, words).say("weather 0 0 -1 = 0", "weather 0 1 9 = 0", "roof 2 1 = 0", "set 0 2 1 = 0", "run 1 = 0", "told 0 4 = 0",
            "told 0 5 = 9");
    }

    private static void snow() {
        String words = "if below 0, SNOW, what is above 9999 is THE STREET's;";
        for (int air : new int[] {-1, -2, -20}) {
            Document.term(2, words).say("weather 0 0 " + air + " = 0", "weather 0 1 2 = 0", "roof 0 3 = 0", "roof 0 9 = 1",
                "set 0 3 0 = 100", "run 1 = 0", "told 0 5 = 6", "told 1 5 = 18", "count 3 = 0", "kilos 3 = 0", "kilos 0 = 20",
                "kilos 2 = 0");
        }
        // 6 kilos on each of what nearly is full; THE HOUR 400 is hour 16 of the day
        Script s = Skies.deepStreet(Document.term(2, words), 2).say("roof 2 3 = 0", "roof 2 3 = 1", "roof 4 3 = 2", "sweep 0 9992 = 9992",
            "sweep 1 9993 = 9993", "sweep 2 9994 = 9994", "kilos 0 = 6021", "weather 16 1 2 = 0", "run 1 = 0", "told 0 5 = 9998",
            "told 1 5 = 9999", "told 2 5 = 9999", "kilos 0 = 6042");
        s.say("weather 17 1 1 = 0", "run 1 = 0", "told 0 5 = 9999", "told 1 5 = 9999", "told 2 5 = 9999", "kilos 0 = 6060",
            "kilos 4 = 29979");
    }

    private static void hail() {
        String words = "if 0, it is NOBODY'S.";
        Document.term(2, words).say("weather 0 1 9 = 0", "roof 0 3 = 0", "roof 2 9 = 1", "set 0 2 9 = 0", "run 1 = 0", "kilos 2 = 198",
            "count 3 = 0", "count 4 = 0", "kilos 0 = 0", "kilos 1 = 0", "kilos 3 = 0", "kilos 6 = 198", "run 1 = 0", "kilos 2 = 198");
        int[][] due = {{-1, 0, 3, 0}, {0, 0, 0, 13}, {1, 3, 0, 0}};
        for (int[] d : due) {
            Document.term(2, words).say("roof 0 3 = 0", "weather 0 0 " + d[0] + " = 0", "weather 0 1 1 = 0", "run 1 = 0",
                "told 0 4 = " + d[1], "told 0 5 = " + d[2], "kilos 2 = " + d[3]);
        }
    }

    private static void street() {
        String words = "On THE STREET fall 10 f: its WATER, its SNOW, or NOBODY'S.";
        for (int fall : new int[] {0, 1, 9}) {
            for (int air = -1; air <= 1; air++) {
                Document.term(2, words).say("weather 0 0 " + air + " = 0", "weather 0 1 " + fall + " = 0", "run 1 = 0",
                    "kilos 0 = " + (air < 0 ? 10 * fall : 0), "kilos 1 = " + (air > 0 ? 10 * fall : 0),
                    "kilos 2 = " + (air == 0 ? 10 * fall : 0), "kilos 6 = " + 10 * fall);
            }
        }
    }

    /** Two hours of snow, then three roofs with just less than they bear, as much, and 1 more; no weather from hour 1 on. */
    private static Script threeRoofs(Script s, int kind, int bears) {
        Skies.snowyStreet(s).say("run 24 = 0", "kilos 0 = 180");
        for (int i = 0; i < 3; i++) {
            int snow = bears - 1 + i;
            s.say("roof " + kind + " 1 = " + i, "sweep " + i + " " + snow + " = " + snow);
        }
        return s.say("kilos 0 = " + (180 - 3 * bears));
    }

    private static void slides() {
        String words = "(2) ROOFS by numbers: one whose SNOW is above what it BEARS slides: all its SNOW comes to THE STREET;";
        int[][] kinds = {{0, 50}, {1, 10}, {3, 10}, {5, 50}};
        for (int[] k : kinds) {
            int bears = k[1];
            threeRoofs(Document.term(2, words), k[0], bears).leaves("slide = 1").say("run 1 = 1", "told 0 5 = " + (bears - 1),
                "told 1 5 = " + bears, "told 2 5 = 0", "kilos 0 = " + (181 - 2 * bears)).leaves("slide = 23").say("run 1 = 0");
        }
        // with what falls in that hour, and with all the size: 9 times 10
        Skies.snowyStreet(Document.term(2, words)).say("roof 1 9 = 0", "roof 1 9 = 1", "sweep 0 80 = 80", "sweep 1 10 = 10",
            "weather 1 0 -1 = 0", "weather 1 1 1 = 0", "run 1 = 0", "told 0 5 = 89", "weather 2 0 -1 = 0", "weather 2 1 1 = 0", "run 1 = 1",
            "told 0 5 = 0", "told 1 5 = 28", "kilos 0 = 118", "kilos 6 = 146");
        // what slides no longer melts on the roof
        Skies.snowyStreet(Document.term(2, words)).say("roof 1 1 = 0", "sweep 0 11 = 11", "sunset 0 = 18", "set 0 2 9 = 0", "run 1 = 1",
            "told 0 4 = 0", "told 0 5 = 0", "kilos 0 = 90", "kilos 1 = 0");
        // FLAT and DAMMED roofs bear all that can lie on them
        for (int kind : new int[] {2, 4}) {
            Skies.deepStreet(Document.term(2, words), 1).say("roof " + kind + " 1 = 0", "sweep 0 9999 = 9999", "slide = NONE",
                "weather 8 1 9 = 0", "run 1 = 0", "told 0 5 = 9999", "kilos 0 = 8100");
        }
    }

    private static void slidesOntoTheNext() {
        String words = "of a LEANING one to the next ROOF by numbers (what is above 9999 there to THE STREET; all, if there is no next "
            + "one).";
        for (int lies : new int[] {9987, 9988, 9989, 9999}) {
            int over = Math.max(0, lies + 11 - 9999);
            for (int kind : new int[] {2, 4}) {
                Skies.deepStreet(Document.term(2, words), 1).say("roof 3 1 = 0", "roof " + kind + " 1 = 1", "sweep 0 11 = 11",
                    "sweep 1 " + lies + " = " + lies, "run 1 = 1", "told 0 5 = 0", "told 1 5 = " + (lies + 11 - over),
                    "kilos 0 = " + (18000 - 11 - lies + over));
            }
        }
        // as much as it bears stays; 1 more goes, also from the last but one, not from the last
        Script s = Skies.snowyStreet(Document.term(2, words)).say("roof 2 1 = 0", "roof 3 1 = 1", "roof 3 1 = 2", "sweep 1 10 = 10",
            "sweep 2 10 = 10");
        s.leaves("slide = 24").say("run 1 = 0", "sweep 1 1 = 1", "kilos 0 = 69", "run 1 = 2", "told 0 5 = 0", "told 1 5 = 0",
            "told 2 5 = 0", "kilos 0 = 90");
        // down the whole row in one hour, and only downwards
        Skies.snowyStreet(Document.term(2, words)).say("roof 3 1 = 0", "roof 3 1 = 1", "roof 3 1 = 2", "roof 1 2 = 3", "roof 3 1 = 4",
            "sweep 0 11 = 11", "run 1 = 3", "told 0 5 = 0", "told 1 5 = 0", "told 2 5 = 0", "told 3 5 = 11", "told 4 5 = 0",
            "kilos 0 = 79");
        Skies.snowyStreet(Document.term(2, words)).say("roof 3 1 = 0", "roof 1 1 = 1", "roof 2 1 = 2", "sweep 0 11 = 11", "run 1 = 2",
            "told 1 5 = 0", "told 2 5 = 0", "kilos 0 = 90");
        // the eighth has no next one
        Script eight = Skies.snowyStreet(Document.term(2, words));
        for (int i = 0; i < 8; i++) {
            eight.say("roof 3 9 = " + i);
        }
        eight.say("set 7 1 1 = 9", "sweep 7 11 = 11", "run 1 = 1", "told 7 5 = 0", "count 4 = 0", "kilos 0 = 90");
    }

    private static void melt() {
        String words = "(3) ROOFS by numbers: MELTS goes from SNOW: to its WATER, if it OWNS (what is above ROOM is LOST), else to THE "
            + "STREET's WATER.";
        for (int sunset = 0; sunset <= 2; sunset++) {
            // 4 kilos melt on each in hour 1; 10 of the street's snow
            boolean owns = sunset <= 1;
            Skies.snowyStreet(Document.term(2, words)).say("roof 0 2 = 0", "roof 2 2 = 1", "roof 1 2 = 2", "roof 3 2 = 3",
                "sweep 0 10 = 10", "sweep 1 10 = 10", "sweep 2 10 = 10", "sweep 3 3 = 3", "set 0 3 3 = 100", "set 1 3 4 = 100",
                "set 2 3 5 = 100", "weather 1 0 2 = 0", "sunset " + sunset + " = 18", "run 1 = 0", "told 0 5 = 6", "told 1 5 = 6",
                "told 2 5 = 6", "told 3 5 = 0", "told 0 4 = " + (owns ? 3 : 0), "told 1 4 = " + (owns ? 4 : 0),
                "told 2 4 = " + (owns ? 4 : 0), "told 3 4 = " + (owns ? 3 : 0), "kilos 3 = " + (owns ? 1 : 0),
                "kilos 1 = " + (owns ? 10 : 25), "kilos 0 = 47", "kilos 6 = 90");
        }
        // rain of the same hour is there first
        Skies.snowyStreet(Document.term(2, words)).say("roof 0 2 = 0", "sweep 0 10 = 10", "sunset 0 = 18", "weather 1 0 1 = 0",
            "weather 1 1 1 = 0", "set 0 3 3 = 100", "run 1 = 0", "told 0 4 = 3", "told 0 5 = 8", "kilos 3 = 1");
        // what fell as snow, or slid onto it, in the same hour melts too, where HEAT is
        Skies.snowyStreet(Document.term(2, words)).say("roof 3 1 = 0", "roof 0 1 = 1", "sweep 0 11 = 11", "set 1 2 9 = 0", "sunset 0 = 18",
            "weather 1 0 -2 = 0", "weather 1 1 1 = 0", "run 1 = 1", "told 1 5 = 6", "told 1 4 = 7");
        // laws of melt and owner, at their bounds
        Script laws = Skies.snowyStreet(Document.term(2, words)).say("roof 0 1 = 0", "roof 0 2 = 1", "sweep 0 5 = 5", "sweep 1 5 = 5");
        laws.reads("melt s*2-4", 0).reads("owner w-1", 1).say("set 0 2 1 = 0", "run 1 = 0", "told 0 5 = 0", "told 0 4 = 0", "told 1 5 = 0",
            "told 1 4 = 5", "kilos 1 = 5", "sweep 0 2 = 2", "sweep 1 3 = 3", "run 1 = 0", "told 0 5 = 2", "told 1 5 = 1", "told 1 4 = 7",
            "kilos 1 = 5");
    }

    private static void thaw() {
        String words = "(4) If a is above 0, of THE STREET's SNOW 5 a at most become its WATER.";
        for (int left : new int[] {0, 1, 9, 10, 11, 90}) {
            Script s = Skies.snowyStreet(Document.term(2, words)).say("roof 2 1 = 0", "weather 1 0 2 = 0", "weather 2 0 0 = 0",
                "weather 3 0 -20 = 0");
            s.call("sweep", 0, 90 - left);
            s.reads("melt 0", 0).say("kilos 0 = " + left, "run 1 = 0", "kilos 0 = " + Math.max(0, left - 10), "kilos 1 = " + Math.min(10,
                left));
            s.say("run 2 = 0", "kilos 0 = " + Math.max(0, left - 10), "kilos 1 = " + Math.min(10, left));
        }
        int[][] airs = {{-20, 90}, {-1, 90}, {0, 90}, {1, 85}, {17, 5}, {18, 0}, {19, 0}, {20, 0}};
        for (int[] a : airs) {
            Skies.snowyStreet(Document.term(2, words)).say("weather 1 0 " + a[0] + " = 0", "run 1 = 0", "kilos 0 = " + a[1],
                "kilos 1 = " + (90 - a[1]));
        }
        // behind what slides in the same hour
        Skies.snowyStreet(Document.term(2, words)).say("roof 1 1 = 0", "roof 2 1 = 1", "sweep 0 11 = 11", "sweep 1 79 = 79", "kilos 0 = 0",
            "weather 1 0 2 = 0", "run 1 = 1", "kilos 0 = 1", "told 1 5 = 77", "kilos 1 = 12");
    }

    /** KIND and SIZE of two roofs that are drawn from a z, the FALL of a sky, its first and last air and fall, z behind the sky. */
    private static final int[][] DRAWN = {
        {1, 2, 3, 0, 3, 130, -5, 2, 3, 2, -1269041583}, {0, 0, 4, 3, 5, 103, -4, 8, 9, 1, -842317936}, {-1, 1, 4, 3, 7, 123, -3, 8, -6, 0,
            -415594289}, {Integer.MIN_VALUE, 2, 8, 1, 9, 101, 7, 0, -2, 3, 1305165712}, {Integer.MAX_VALUE, 5, 9, 5, 2, 105, 7, 6, 5, 2,
            1731889359}};

    private static void drawnNumbers() {
        Document.term(2, "z is told (1 at first).").leaves("count 8 = 1").say("seed 7 = 1").leaves("count 8 = 7");
        // one roof is two draws: from 0 first 12345, then -740551042, whose highest bit must not make a rest below 0
        Document.term(2, "A draw: z becomes z * 1103515245 + 12345 (an int); it gives z >>> 8.").say("seed 0 = 1", "deal 1 = 1",
            "count 8 = -740551042", "told 0 0 = 0", "told 0 1 = 4", "seed -1 = -740551042", "deal 1 = 1", "count 8 = 288979989",
            "seed MIN = 288979989", "deal 1 = 1", "count 8 = 1406932606", "seed MAX = 1406932606", "deal 1 = 1", "count 8 = -1858503659");
        for (int[] d : DRAWN) {
            Document.term(2, "ROOFS that are drawn: KIND the rest of a draw by 6, SIZE 1 and that of one more by 9.")
                .say("seed " + d[0] + " = 1", "deal 2 = 2", "told 0 0 = " + d[1], "told 0 1 = " + d[2], "told 1 0 = " + d[3],
                "told 1 1 = " + d[4]);
            Document.term(2,
                "A SKY that is drawn: for each hour of the day, from 0 on, AIR the rest of a draw by 21, less 10, FALL that of one more by 10.")
                .say("seed " + d[0] + " = 1", "sky = " + d[5], "count 8 = " + d[10], "weather 0 0 0 = " + d[6],
                "weather 0 1 0 = " + d[7], "weather 23 0 0 = " + d[8], "weather 23 1 0 = " + d[9]);
        }
        // from z 1 AIR of hour 5 is the least there can be, FALL of hour 4 the greatest; from z 0 that of hours 20 and 13
        Document.promise(12, "A SKY is drawn: FALL of all hours of the day, together.").say("sky = 130", "weather 5 0 0 = -10",
            "weather 4 1 0 = 9", "seed 0 = -1269041583", "sky = 103", "weather 20 0 0 = 10", "weather 13 1 1 = 0", "weather 4 1 0 = 9",
            "count 8 = -842317936", "count 1 = 0");
    }

    private static void weather() {
        Document.promise(11, "AIR (what 0), FALL (1) of an hour of the day becomes v: what it was.")
            .say("weather 7 0 -20 = 0", "weather 7 1 9 = 0", "weather 7 0 20 = -20", "weather 7 1 0 = 9", "weather 8 0 0 = 0",
            "weather 6 1 0 = 0", "weather 7 0 9 = 20").leaves("weather 7 0 9 = 9", "weather 7 1 0 = 0");
        Document.promise(11, "BAD.").say("weather 0 0 5 = 0", "weather 0 1 5 = 0").outside("weather # 0 0", 0, 23)
            .outside("weather # 1 0", 0, 23).outside("weather 0 # 0", 0, 1).outside("weather 0 0 #", -20, 20).outside("weather 0 1 #", 0, 9)
            .leaves("weather 0 1 -1 = BAD", "weather 0 1 20 = BAD", "weather 24 2 21 = BAD");
        Script sunset = Document.promise(13, "SUNSET becomes v: what it was.").say("sunset 24 = 18", "sunset 0 = 24", "sunset 7 = 0",
            "count 2 = 7");
        sunset.leaves("sunset 7 = 7");
        Document.promise(13, "BAD.").outside("sunset #", 0, 24).say("sunset 3 = 18").outside("sunset #", 0, 24);
    }

    private static void runs() {
        String words = "n (1 .. 200) HOURS (no more than up to 9999): how many slides there were in them.";
        for (int n : new int[] {1, 2, 199, 200}) {
            Document.promise(14, words).say("weather 0 1 1 = 0", "run " + n + " = 0", "count 1 = " + n,
                "kilos 2 = " + 10 * ((n + 23) / 24));
        }
        for (int left = 0; left <= 3; left++) {
            for (int n = 1; n <= 3; n++) {
                // rain in every hour tells how many there were
                int hours = Math.min(left, n);
                Script s = Skies.wait(Document.promise(14, words), 9999 - left);
                Skies.all(s, 1, 1).say("run " + n + " = 0", "count 1 = " + (9999 - left + hours), "kilos 1 = " + 10 * hours);
            }
        }
        Script last = Skies.wait(Document.promise(14, words), 9799);
        Skies.all(last, 1, 1).say("run 200 = 0", "count 1 = 9999", "kilos 1 = 2000", "run 200 = 0", "kilos 1 = 2000");
        Script most = Skies.wait(Document.promise(14, words), 9800);
        Skies.all(most, 1, 1).say("run 200 = 0", "count 1 = 9999", "kilos 1 = 1990");
        // 9 kilos an hour on each: a slide every second hour of the first, in every sixth of the second
        Script slides = Document.promise(14, words).say("roof 1 1 = 0", "roof 0 1 = 1", "roof 2 1 = 2");
        Skies.all(slides, -1, 9).say("run 1 = 0", "run 1 = 1", "run 3 = 1", "run 1 = 2", "run 6 = 4", "run 200 = 133");
        Document.promise(14, "BAD.").say("weather 0 1 1 = 0").outside("run #", 1, 200);
        Skies.wait(Document.promise(14, "BAD."), 9999).outside("run #", 1, 200);
    }

    private static void kilos() {
        Script s = Document.promise(15,
            "Kilos: 0 THE STREET's SNOW, 1 its WATER, 2 NOBODY'S, 3 LOST, 4 STOLEN, 5 USED, 6 all that there are "
            + "(ROOFS' WATER and SNOW, THE STREET's, NOBODY'S, LOST, USED).");
        s.say("roof 0 9 = 0", "roof 2 1 = 1", "weather 0 0 -1 = 0", "weather 0 1 2 = 0", "weather 1 0 1 = 0", "weather 1 1 8 = 0",
            "weather 2 1 1 = 0", "set 0 3 50 = 100", "run 3 = 0", "sweep 1 4 = 4", "use 0 7 = 7");
        // 18 and 2 of snow and 20 of the street's; rain 72 (22 are lost), 8 and 80; 9, 1 and 5 of snow melt; hail 9, 1 and 10
        s.leaves("told 0 4 = 43", "told 0 5 = 9", "told 1 4 = 8", "told 1 5 = 5", "kilos 0 = 11", "kilos 1 = 95", "kilos 2 = 20",
            "kilos 3 = 22", "kilos 4 = 4", "kilos 5 = 7", "kilos 6 = 220");
        Document.promise(15, "BAD.").outside("kilos #", 0, 6);
    }
}
