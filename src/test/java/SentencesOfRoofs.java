/** Part 1 of Terms and promises 1 to 10: each sentence at its bounds and on both sides of them. */
final class SentencesOfRoofs {
    private SentencesOfRoofs() {
    }

    static void all() {
        roofsAndKinds();
        fields();
        waterAndSnow();
        streetAndSky();
        sunsetAndHour();
        warmthAndMelts();
        meltsOfKinds();
        bearsAndWorth();
        owns();
        makes();
        tells();
        changes();
        sweeps();
        uses();
        draws();
    }

    private static void roofsAndKinds() {
        Script s = Document.term(1, "ROOFS, 8 at most, numbered from 0:");
        s.leaves("told 0 0 = BAD");
        for (int i = 0; i < 7; i++) {
            s.say("roof 0 1 = " + i);
        }
        s.leaves("told 6 0 = 0", "told 7 0 = BAD", "told -1 0 = BAD", "count 0 = 7").say("roof 5 9 = 7");
        s.leaves("told 7 0 = 5", "told 8 0 = BAD", "roof 0 1 = FULL", "roof 5 9 = FULL", "count 0 = 8");

        Script k = Document.term(1, "and of KINDS: 0 ROOF; 1 STEEP, 2 FLAT, 5 GLASS, under ROOF; 3 LEANING, under STEEP; "
            + "4 DAMMED, under FLAT (all are ROOFS).");
        String[] under = {"0", "01", "02", "013", "024", "05"};
        for (int kind = 0; kind < 6; kind++) {
            k.say("roof " + kind + " " + (kind + 1) + " = " + kind, "told " + kind + " 0 = " + kind);
        }
        for (int kind = 0; kind < 6; kind++) {
            for (int as = 0; as < 6; as++) {
                k.leaves("as " + kind + " " + as + " = " + (under[kind].indexOf('0' + as) >= 0 ? "" + (kind + 1) : "KIND"));
            }
        }
        k.outside("roof # 1", 0, 5).outside("turns 0 #", 0, 5).outside("as 0 #", 0, 5);
    }

    private static void fields() {
        Script size = Document.term(1, "SIZE 1 .. 9,").outside("roof 0 #", 1, 9);
        size.say("roof 0 1 = 0", "roof 0 2 = 1", "roof 0 8 = 2", "roof 0 9 = 3", "told 0 1 = 1", "told 1 1 = 2", "told 2 1 = 8",
            "told 3 1 = 9").outside("set 0 1 #", 1, 9);
        size.say("set 0 1 2 = 1", "set 0 1 8 = 2", "set 0 1 9 = 8", "told 0 1 = 9", "set 0 1 1 = 9", "told 0 1 = 1");

        Script heat = Document.term(1, "HEAT 0 .. 9 (0 at first),").say("roof 0 1 = 0", "told 0 2 = 0").outside("set 0 2 #", 0, 9);
        heat.say("set 0 2 1 = 0", "set 0 2 8 = 1", "set 0 2 9 = 8", "told 0 2 = 9").outside("set 0 2 #", 0, 9);
        heat.say("set 0 2 0 = 9", "told 0 2 = 0");

        Script room = Document.term(1, "ROOM 0 .. 999 (100),").say("roof 0 1 = 0", "told 0 3 = 100").outside("set 0 3 #", 0, 999);
        room.say("set 0 3 1 = 100", "set 0 3 0 = 1", "told 0 3 = 0", "set 0 3 998 = 0", "set 0 3 999 = 998", "told 0 3 = 999");
        room.outside("set 0 3 #", 0, 999);
    }

    private static void waterAndSnow() {
        Script water = Document.term(1, "WATER 0 .. ROOM (0),").say("roof 0 1 = 0", "told 0 4 = 0", "set 0 3 5 = 100");
        for (int h = 0; h < 3; h++) {
            water.say("weather " + h + " 0 1 = 0", "weather " + h + " 1 " + (h == 0 ? 4 : 1) + " = 0");
        }
        water.say("run 1 = 0", "told 0 4 = 4", "kilos 3 = 0", "run 1 = 0", "told 0 4 = 5", "kilos 3 = 0", "run 1 = 0", "told 0 4 = 5",
            "kilos 3 = 1", "use 0 4 = 4", "told 0 4 = 1", "use 0 2 = 1", "told 0 4 = 0").leaves("use 0 1 = 0");
        water.say("told 0 4 = 0");

        Script snow = Skies.deepStreet(Document.term(1, "SNOW 0 .. 9999 (0),"), 1).say("roof 2 1 = 0", "told 0 5 = 0");
        snow.say("sweep 0 9998 = 9998", "told 0 5 = 9998", "weather 8 1 1 = 0", "run 1 = 0", "told 0 5 = 9999", "kilos 0 = 8012",
            "weather 9 1 1 = 0", "run 1 = 0", "told 0 5 = 9999", "kilos 0 = 8023");
        // and down to 0: 9 times 29 melt an hour
        snow.say("set 0 1 9 = 1", "set 0 2 9 = 0");
        for (int h = 0; h < 24; h++) {
            snow.call("weather", h, 0, 20);
            snow.call("weather", h, 1, 0);
        }
        snow.say("run 38 = 0", "told 0 5 = 81", "run 1 = 0", "told 0 5 = 0", "run 1 = 0", "told 0 5 = 0");
    }

    private static void streetAndSky() {
        Script street = Document.term(1, "THE STREET has SNOW and WATER; there are NOBODY'S, LOST, STOLEN, USED (0 each at first).");
        for (int what = 0; what <= 6; what++) {
            street.leaves("kilos " + what + " = 0");
        }
        Script sky = Document.term(1, "Of each hour of the day (0 .. 23): AIR -20 .. 20, FALL 0 .. 9 (0 at first).");
        sky.outside("weather # 0 1", 0, 23).outside("weather # 1 1", 0, 23).outside("weather 0 0 #", -20, 20).outside("weather 0 1 #", 0, 9)
            .outside("weather 23 0 #", -20, 20).outside("weather 23 1 #", 0, 9);
        for (int h = 0; h < 24; h++) {
            sky.say("weather " + h + " 0 " + (h - 20) + " = 0", "weather " + h + " 1 " + h % 10 + " = 0");
        }
        for (int h = 0; h < 24; h++) {
            sky.say("weather " + h + " 0 20 = " + (h - 20), "weather " + h + " 1 9 = " + h % 10);
        }
        sky.say("weather 0 0 19 = 20", "weather 0 0 -19 = 19", "weather 0 0 -20 = -19", "weather 0 0 -20 = -20", "weather 23 1 8 = 9",
            "weather 23 1 1 = 8", "weather 23 1 0 = 1", "weather 23 1 0 = 0");
    }

    private static void sunsetAndHour() {
        Script sunset = Document.term(1, "SUNSET is 0 .. 24 (18 at first).").say("count 2 = 18").outside("sunset #", 0, 24);
        sunset.say("sunset 0 = 18", "count 2 = 0", "sunset 1 = 0", "sunset 23 = 1", "sunset 24 = 23", "count 2 = 24");
        sunset.outside("sunset #", 0, 24);

        Script hour = Document.term(1, "THE HOUR is 0 at first, 9999 at most; its rest by 24 is the hour of the day.");
        hour.say("count 1 = 0", "roof 0 1 = 0", "weather 0 0 5 = 0", "weather 23 0 7 = 0", "weather 14 0 3 = 0", "weather 15 0 -4 = 0",
            "told 0 6 = 5", "run 23 = 0", "count 1 = 23", "told 0 6 = 7", "run 1 = 0", "count 1 = 24", "told 0 6 = 5", "run 1 = 0",
            "count 1 = 25", "told 0 6 = 0");
        for (int i = 0; i < 49; i++) {
            hour.say("run 200 = 0");
        }
        hour.say("count 1 = 9825", "run 173 = 0", "count 1 = 9998", "told 0 6 = 3", "run 1 = 0", "count 1 = 9999", "told 0 6 = -4");
        hour.leaves("run 1 = 0", "run 200 = 0", "count 1 = 9999");
    }

    private static void warmthAndMelts() {
        Script warmth = Document.term(1, "WARMTH: AIR of the hour of the day, and HEAT.").say("roof 0 1 = 0", "told 0 6 = 0",
            "weather 0 0 -20 = 0", "told 0 6 = -20", "set 0 2 9 = 0", "told 0 6 = -11", "weather 0 0 -9 = -20", "told 0 6 = 0",
            "weather 0 0 20 = -9", "told 0 6 = 29", "weather 1 0 2 = 0", "told 0 6 = 29", "run 1 = 0", "told 0 6 = 11");
        warmth.say("set 0 2 0 = 9", "told 0 6 = 2");

        Script text = Skies.snowyStreet(Document.term(1, "MELTS: ROOF: what melt gives, held within 0 .. SNOW"));
        text.say("roof 0 1 = 0", "sweep 0 5 = 5").reads("melt w", 0);
        int was = 0;
        int[][] airs = {{-20, 0}, {-1, 0}, {0, 0}, {1, 1}, {4, 4}, {5, 5}, {6, 5}, {20, 5}};
        for (int[] air : airs) {
            text.say("weather 1 0 " + air[0] + " = " + was, "told 0 7 = " + air[1]);
            was = air[0];
        }
        // ints wrap: 1308085507, then -1295567266
        text.reads("melt 9999*9999*99", 1).say("told 0 7 = 5").reads("melt 9999*9999*30", 2).say("told 0 7 = 0");
        text.reads("melt s+1", 3).say("told 0 7 = 5").reads("melt s", 4).say("told 0 7 = 5").reads("melt s-1", 5).say("told 0 7 = 4");
        text.say("roof 0 1 = 1", "told 1 7 = 0").reads("melt 9999", 6).say("told 1 7 = 0", "told 0 7 = 5");

        Script plain = Skies.snowyStreet(Document.term(1, "(without a TEXT: SIZE times what WARMTH is above 0, SNOW at most)."));
        plain.say("roof 0 3 = 0", "roof 0 3 = 1", "roof 0 3 = 2", "roof 0 3 = 3", "sweep 0 5 = 5", "sweep 1 6 = 6", "sweep 2 7 = 7");
        int[][] due = {{-1, 0, 0, 0}, {0, 0, 0, 0}, {1, 3, 3, 3}, {2, 5, 6, 6}, {3, 5, 6, 7}};
        was = 0;
        for (int[] d : due) {
            plain.say("weather 1 0 " + d[0] + " = " + was, "told 0 7 = " + d[1], "told 1 7 = " + d[2], "told 2 7 = " + d[3],
                "told 3 7 = 0");
            was = d[0];
        }
        plain.say("weather 1 0 -9 = 3", "set 2 2 9 = 0", "told 2 7 = 0", "weather 1 0 -8 = -9", "told 2 7 = 3");
    }

    private static void meltsOfKinds() {
        // as ROOF 6 at a warmth of 2: twice are 12
        Script glass = Skies.snowyStreet(Document.term(1, "GLASS: twice as ROOF (SNOW at most)."));
        glass.say("roof 5 3 = 0", "roof 5 3 = 1", "roof 5 3 = 2", "roof 5 3 = 3", "sweep 0 11 = 11", "sweep 1 12 = 12", "sweep 2 13 = 13",
            "weather 1 0 2 = 0", "told 0 7 = 11", "told 1 7 = 12", "told 2 7 = 12", "told 3 7 = 0", "weather 1 0 0 = 2", "told 2 7 = 0",
            "weather 1 0 1 = 0", "told 2 7 = 6", "weather 1 0 20 = 1", "told 2 7 = 13");
        glass.reads("melt 6", 0).say("told 0 7 = 11", "told 1 7 = 12", "told 2 7 = 12").reads("melt 0-6", 1).say("told 2 7 = 0");
        glass.reads("melt 9999*9999*20", 2).say("told 2 7 = 13");

        Script dammed = Skies.snowyStreet(Document.term(1, "DAMMED: half (cut) of as FLAT."));
        dammed.say("roof 4 1 = 0", "sweep 0 5 = 5", "weather 1 0 0 = 0", "told 0 7 = 0", "weather 1 0 1 = 0", "told 0 7 = 0",
            "weather 1 0 2 = 1", "told 0 7 = 1", "weather 1 0 3 = 2", "told 0 7 = 1", "weather 1 0 4 = 3", "told 0 7 = 2",
            "weather 1 0 20 = 4", "told 0 7 = 2", "sweep 0 1 = 1", "told 0 7 = 3");
        dammed.reads("melt 5", 0).say("told 0 7 = 2").reads("melt 0-5", 1).say("told 0 7 = 0");

        Script others = Skies.snowyStreet(Document.term(1, "(A KIND that is not named does as the one above it.)"));
        for (int kind = 0; kind < 6; kind++) {
            others.say("roof " + kind + " 2 = " + kind, "sweep " + kind + " 9 = 9");
        }
        others.say("weather 1 0 2 = 0", "told 0 7 = 4", "told 1 7 = 4", "told 2 7 = 4", "told 3 7 = 4", "told 4 7 = 2", "told 5 7 = 8",
            "told 3 8 = 20", "told 1 8 = 20", "told 4 8 = 9999", "told 5 8 = 100", "told 0 8 = 100");
    }

    private static void bearsAndWorth() {
        int[][] due = {{50, 450, 1, 9}, {10, 90, 4, 12}, {9999, 9999, 19, 11}, {10, 90, 8, 24}, {9999, 9999, 17, 9}, {50, 450, 30, 30}};
        String[][] words = {{"BEARS: ROOF: 50 times SIZE.", "WORTH: ROOF: SIZE."}, {"STEEP: 10 times SIZE.", "STEEP: as ROOF, and 3."},
            {"FLAT: 9999.", "FLAT: 20 less SIZE."}, {"BEARS: ROOF: 50 times SIZE. STEEP: 10 times SIZE.", "LEANING: twice as STEEP."},
            {"FLAT: 9999.", "DAMMED: as FLAT, less 2."}, {"BEARS: ROOF: 50 times SIZE.", "GLASS: 30."}};
        for (int kind = 0; kind < 6; kind++) {
            int[] d = due[kind];
            String makes = "roof " + kind + " 1 = 0";
            Document.term(1, words[kind][0]).say(makes).leaves("told 0 8 = " + d[0]).say("set 0 1 9 = 1").leaves("told 0 8 = " + d[1]);
            Document.term(1, words[kind][1]).say(makes).leaves("told 0 10 = " + d[2]).say("set 0 1 9 = 1").leaves("told 0 10 = " + d[3]);
        }
    }

    private static void owns() {
        Script text = Document.term(1, "OWNS: whether what owner gives for it is not 0").say("roof 0 1 = 0").reads("owner h-1", 0);
        text.say("told 0 9 = 1", "run 1 = 0", "told 0 9 = 0", "run 1 = 0", "told 0 9 = 1", "run 22 = 0", "told 0 9 = 1", "run 1 = 0",
            "told 0 9 = 0", "roof 0 1 = 1").reads("owner w-1", 1);
        text.say("told 0 9 = 1", "set 0 2 1 = 0", "told 0 9 = 0", "told 1 9 = 1", "set 0 2 2 = 1", "told 0 9 = 1", "sunset 24 = 18",
            "told 0 9 = 1", "sunset 0 = 24", "set 0 2 1 = 2", "told 0 9 = 0");

        Script plain = Document.term(1, "(without a TEXT: whether the hour of the day is SUNSET or more).");
        plain.say("roof 0 1 = 0", "told 0 9 = 0", "sunset 1 = 18", "told 0 9 = 0", "sunset 0 = 1", "told 0 9 = 1", "sunset 1 = 0",
            "run 1 = 0", "told 0 9 = 1", "run 1 = 0", "told 0 9 = 1", "sunset 3 = 1", "told 0 9 = 0", "run 21 = 0", "sunset 22 = 3",
            "told 0 9 = 1", "sunset 23 = 22", "told 0 9 = 1", "sunset 24 = 23", "told 0 9 = 0", "sunset 23 = 24", "run 1 = 0",
            "count 1 = 24", "told 0 9 = 0", "sunset 0 = 23", "told 0 9 = 1", "sunset 18 = 0", "run 17 = 0", "told 0 9 = 0", "run 1 = 0",
            "told 0 9 = 1");
    }

    private static void makes() {
        Script fresh = Document.promise(1, "As told; no ROOFS.");
        fresh.leaves("count 0 = 0", "count 1 = 0", "count 2 = 18", "count 3 = 0", "count 4 = 0", "count 5 = 0", "count 6 = 0",
            "count 7 = 0", "count 8 = 1", "told 0 0 = BAD", "fine 0 = BAD", "slide = NONE", "gains 0 1 = NONE", "why 0 = NONE",
            "why 1 = NONE", "why 2 = NONE", "reads 0 = NOTHING", "reads 3 = NOTHING", "rest 0 1 = NOTHING", "rest 4 1 = NOTHING",
            "back = NO", "check 1 = NO", "trim 0 = 0", "trim 1 = BAD");

        Script roof = Document.promise(2, "One more ROOF: its number.").say("roof 4 9 = 0");
        roof.leaves("told 0 0 = 4", "told 0 1 = 9", "told 0 2 = 0", "told 0 3 = 100", "told 0 4 = 0", "told 0 5 = 0", "count 0 = 1");
        roof.say("weather 0 0 1 = 0", "weather 0 1 1 = 0", "weather 1 0 -1 = 0", "weather 1 1 1 = 0", "keep = 1", "roof 1 2 = 1",
            "set 1 3 7 = 100", "set 1 2 8 = 0", "run 1 = 0", "set 1 2 0 = 8", "run 1 = 0", "told 1 4 = 2", "told 1 5 = 2", "set 1 2 8 = 0",
            "back = 1", "roof 3 1 = 1");
        // the number is free again behind the image, and all of the roof is as of a new one
        roof.leaves("told 1 0 = 3", "told 1 1 = 1", "told 1 2 = 0", "told 1 3 = 100", "told 1 4 = 0", "told 1 5 = 0");

        Script refused = Document.promise(2, "BAD; FULL.").outside("roof # 5", 0, 5).outside("roof 0 #", 1, 9);
        for (int i = 0; i < 8; i++) {
            refused.say("roof " + i % 6 + " 9 = " + i);
        }
        refused.leaves("roof 0 1 = FULL", "roof 5 9 = FULL").outside("roof # 5", 0, 5).outside("roof 0 #", 1, 9).leaves("roof 6 0 = BAD");
    }

    private static void tells() {
        Script s = Document.promise(3, "Of a ROOF: what 0 KIND, 1 SIZE, 2 HEAT, 3 ROOM, 4 WATER, 5 SNOW, 6 WARMTH, 7 MELTS, 8 BEARS, "
            + "9 whether it OWNS (1, 0), 10 WORTH.");
        Skies.snowyStreet(s).say("weather 1 0 1 = 0", "weather 1 1 2 = 0", "weather 2 0 -3 = 0", "roof 3 4 = 0", "run 1 = 0",
            "set 0 2 5 = 0", "set 0 3 50 = 100", "sweep 0 30 = 30", "sunset 3 = 18");
        s.leaves("told 0 0 = 3", "told 0 1 = 4", "told 0 2 = 5", "told 0 3 = 50", "told 0 4 = 8", "told 0 5 = 30", "told 0 6 = 2",
            "told 0 7 = 8", "told 0 8 = 40", "told 0 9 = 0", "told 0 10 = 14").say("sunset 2 = 3").leaves("told 0 9 = 1");
        Document.promise(3, "BAD.").outside("told # 0", 0, -1).say("roof 0 1 = 0").outside("told # 0", 0, 0).outside("told 0 #", 0, 10)
            .outside("told 1 #", 0, 10);

        Script as = Document.promise(4, "A ROOF as one of a KIND: SIZE.").say("roof 3 1 = 0", "roof 4 9 = 1");
        as.leaves("as 0 3 = 1", "as 0 1 = 1", "as 0 0 = 1", "as 1 4 = 9", "as 1 2 = 9", "as 1 0 = 9").say("turns 0 5 = 3");
        as.leaves("as 0 5 = 1", "as 0 0 = 1", "as 0 3 = KIND", "as 0 1 = KIND");
        Document.promise(4, "BAD: roof, kind; KIND: it is not of that KIND, nor of one under it.").outside("as # 0", 0, -1)
            .say("roof 1 5 = 0", "roof 2 5 = 1", "roof 0 5 = 2").leaves("as 0 2 = KIND", "as 0 3 = KIND", "as 0 4 = KIND", "as 0 5 = KIND",
            "as 1 1 = KIND", "as 1 4 = KIND", "as 2 1 = KIND", "as 2 2 = KIND", "as 2 5 = KIND", "as 0 1 = 5", "as 3 5 = BAD",
            "as 3 6 = BAD").outside("as 0 #", 0, 5).outside("as # 3", 0, 2);
    }

    private static void changes() {
        Script turns = Skies.snowyStreet(Document.promise(5, "A ROOF is of another KIND from now on: what it was."));
        turns.say("roof 0 9 = 0", "set 0 2 2 = 0", "set 0 3 60 = 100", "sweep 0 80 = 80", "weather 1 0 2 = 0", "weather 1 1 1 = 0",
            "sunset 0 = 18", "run 1 = 0");
        int was = 0;
        for (int kind : new int[] {5, 4, 3, 2, 1, 0}) {
            turns.say("turns 0 " + kind + " = " + was, "told 0 0 = " + kind, "told 0 1 = 9", "told 0 2 = 2", "told 0 3 = 60",
                "told 0 4 = 45", "told 0 5 = 44");
            was = kind;
        }
        // from now on: what it bears is that of the new kind
        turns.say("set 0 1 4 = 9", "slide = NONE", "turns 0 1 = 0", "slide = 1", "turns 0 2 = 1", "slide = NONE");
        Document.promise(5, "BAD.").outside("turns # 0", 0, -1).say("roof 3 4 = 0").outside("turns # 0", 0, 0).outside("turns 0 #", 0, 5);

        Script set = Document.promise(6,
            "SIZE, HEAT, ROOM (what 1 .. 3; WATER above a new ROOM is LOST) of a ROOF becomes v: what it was.");
        set.say("weather 0 0 1 = 0", "weather 0 1 5 = 0", "roof 0 9 = 0", "run 1 = 0", "told 0 4 = 45", "set 0 3 46 = 100", "told 0 4 = 45",
            "kilos 3 = 0", "set 0 3 45 = 46", "told 0 4 = 45", "kilos 3 = 0", "set 0 3 44 = 45", "told 0 4 = 44", "kilos 3 = 1",
            "set 0 3 999 = 44", "told 0 4 = 44", "kilos 3 = 1", "set 0 3 0 = 999", "told 0 4 = 0", "kilos 3 = 45", "kilos 6 = 95",
            "set 0 1 1 = 9", "set 0 2 9 = 0", "told 0 1 = 1", "told 0 2 = 9", "told 0 3 = 0").leaves("set 0 1 1 = 1", "set 0 2 9 = 9",
            "set 0 3 0 = 0");
        Document.promise(6, "BAD.").outside("set # 1 1", 0, -1).say("roof 0 5 = 0").outside("set # 2 1", 0, 0).outside("set 0 # 5", 1, 3)
            .outside("set 0 1 #", 1, 9).outside("set 0 2 #", 0, 9).outside("set 0 3 #", 0, 999).leaves("set 0 1 999 = BAD",
            "set 0 2 999 = BAD");
    }

    private static void sweeps() {
        String words = "n (1 .. 9999) kilos of THE STREET's SNOW, as much as there is, come to a ROOF, as far as there is room (9999); "
            + "so much more is STOLEN: how much.";
        Script s = Skies.snowyStreet(Document.promise(7, words)).say("roof 2 1 = 0", "sweep 0 1 = 1", "kilos 0 = 89", "told 0 5 = 1",
            "kilos 4 = 1", "sweep 0 88 = 88", "kilos 0 = 1", "sweep 0 2 = 1", "kilos 0 = 0", "told 0 5 = 90", "kilos 4 = 90");
        s.leaves("sweep 0 1 = 0", "sweep 0 9999 = 0");
        Skies.snowyStreet(Document.promise(7, words)).say("roof 0 1 = 0", "sweep 0 90 = 90", "kilos 0 = 0", "kilos 4 = 90", "kilos 6 = 90");
        Skies.snowyStreet(Document.promise(7, words)).say("roof 0 1 = 0", "sweep 0 91 = 90", "kilos 0 = 0", "kilos 4 = 90", "kilos 6 = 90");
        Skies.snowyStreet(Document.promise(7, words)).say("roof 0 1 = 0", "sweep 0 9998 = 90").leaves("sweep 0 9998 = 0");
        for (int lies : new int[] {9997, 9998, 9999}) {
            int room = 9999 - lies;
            Script deep = Skies.deepStreet(Document.promise(7, words), 1).say("roof 2 1 = 0", "sweep 0 " + lies + " = " + lies,
                "sweep 0 2 = " + Math.min(2, room), "told 0 5 = 9999", "kilos 4 = 9999", "kilos 0 = 8001")
                .leaves("sweep 0 1 = 0", "sweep 0 9999 = 0");
            deep.outside("sweep 0 #", 1, 9999);
        }
        Skies.deepStreet(Document.promise(7, words), 1).say("roof 1 1 = 0", "sweep 0 9999 = 9999", "told 0 5 = 9999", "kilos 4 = 9999");
        Skies.snowyStreet(Document.promise(7, "BAD.")).outside("sweep # 1", 0, -1).say("roof 0 1 = 0").outside("sweep # 1", 0, 0)
            .outside("sweep 0 #", 1, 9999);
    }

    private static void uses() {
        String words = "n (1 .. 999) kilos of a ROOF's WATER, as much as there is, are USED: how much.";
        for (int n : new int[] {1, 80, 81, 82, 998, 999}) {
            int used = Math.min(81, n);
            Document.promise(8, words).say("weather 0 0 1 = 0", "weather 0 1 9 = 0", "roof 0 9 = 0", "roof 0 9 = 1", "run 1 = 0",
                "use 0 " + n + " = " + used, "told 0 4 = " + (81 - used), "told 1 4 = 81", "kilos 5 = " + used, "kilos 6 = 252");
        }
        Script empty = Document.promise(8, words).say("roof 0 1 = 0").leaves("use 0 1 = 0", "use 0 999 = 0");
        empty.say("set 0 3 999 = 100", "set 0 1 9 = 1");
        Skies.all(empty, 1, 9).say("run 13 = 0", "told 0 4 = 999", "kilos 3 = 54", "use 0 999 = 999", "told 0 4 = 0", "kilos 5 = 999");
        Document.promise(8, "BAD.").outside("use # 1", 0, -1).say("weather 0 0 1 = 0", "weather 0 1 9 = 0", "roof 0 9 = 0", "run 1 = 0")
            .outside("use # 1", 0, 0).outside("use 0 #", 1, 999);
    }

    /** What is drawn from z 1: KIND and SIZE of eight roofs, and z behind each. */
    private static final int[][] DRAWN = {{2, 3, -1770082073}, {0, 3, -999580867}, {1, 4, -1778682749}, {4, 3, -1661227463},
        {4, 7, 267834847}, {0, 4, 836760821}, {4, 3, -1357057797}, {5, 6, -997725327}};

    private static void draws() {
        String words = "ROOFS are drawn, n (1 .. 8) of them, as many as there is room for (no draws for others): how many came.";
        for (int n : new int[] {1, 2, 7, 8}) {
            Script s = Document.promise(9, words).say("deal " + n + " = " + n, "count 0 = " + n, "count 8 = " + DRAWN[n - 1][2]);
            for (int i = 0; i < n; i++) {
                s.say("told " + i + " 0 = " + DRAWN[i][0], "told " + i + " 1 = " + DRAWN[i][1], "told " + i + " 2 = 0",
                    "told " + i + " 3 = 100");
            }
        }
        for (int had : new int[] {5, 6, 7, 8}) {
            Script s = Document.promise(9, words);
            for (int i = 0; i < had; i++) {
                s.say("roof 0 9 = " + i);
            }
            int come = Math.min(2, 8 - had);
            s.say("deal 2 = " + come, "count 0 = " + (had + come), "count 8 = " + (come == 0 ? 1 : DRAWN[come - 1][2]));
        }
        Script full = Document.promise(9, words).say("roof 0 9 = 0", "deal 8 = 7", "count 8 = " + DRAWN[6][2]);
        full.leaves("deal 1 = 0", "deal 8 = 0");
        Document.promise(9, "BAD.").outside("deal #", 1, 8).say("deal 8 = 8").outside("deal #", 1, 8);

        Document.promise(10, "z becomes v: what it was.").say("seed MIN = 1", "count 8 = MIN", "seed MAX = MIN", "count 8 = MAX",
            "seed 0 = MAX", "count 8 = 0", "seed -1 = 0", "count 8 = -1", "seed BAD = -1", "seed 1 = BAD", "count 8 = 1")
            .leaves("seed 1 = 1");
    }
}
