/** What Terms say of every call that is refused, in a town where each thing is there and is not as at first. */
final class SentencesOfRefusals {
    private static final String REFUSED = "A call that is refused answers one of BAD, NO, FULL, or a FINDING, of several the one that "
        + "stands first with it, and changes nothing (but the tape and the numbers that wait, where told).";

    private SentencesOfRefusals() {
    }

    static void all() {
        bad();
        findings();
        several();
        full();
        noImage();
        tapeAndNumbers();
        none();
        asking();
    }

    /** Three roofs and two texts, of which an image is kept. */
    private static Script begun(Script s) {
        Skies.snowyStreet(s).say("weather 1 0 3 = 0", "weather 1 1 2 = 0", "weather 2 0 -1 = 0", "weather 2 1 1 = 0", "weather 4 1 5 = 0",
            "roof 3 2 = 0", "roof 2 3 = 1", "roof 5 4 = 2", "sweep 1 20 = 20", "run 1 = 0", "set 0 2 4 = 0", "set 1 3 50 = 100",
            "use 2 3 = 3", "sweep 2 11 = 11", "sunset 2 = 18", "seed 5 = 1");
        return s.reads("melt w*2+s/10", 0).reads("owner h>1", 1).say("keep = 3");
    }

    /** Gone on from the image: four roofs, three texts, sheets, slots, the numbers of two hours of the image, a tape with a text. */
    private static Script town(Script s) {
        Script hours = begun(new Script("hours of the image"));
        begun(s).say("roof 1 3 = 3", "set 3 3 7 = 100", "weather 5 0 -3 = 0").reads("fine w+s*2", 2)
            .say("run 1 = 0", "sunset 7 = 2", "seed 99 = 5");
        s.say("sheet 0 0 2 = 2", "mark 0 0 5 = 1", "mark 0 1 -6 = 1", "sheet 1 1 3 = 3", "mark 1 0 7 = 1", "mark 1 1 NONE = 1",
            "mark 1 2 -8 = 1", "sheet 3 0 0 = 0", "lay 0 1 2 = 0", "lay 1 2 1 = 0", "lay 2 3 -7 = 0", "lay 4 2 0 = 0", "mark 0 0 4 = 1",
            "mark 1 2 9 = 1");
        for (int i = 0; i < 2; i++) {
            hours.call("run", 1);
            s.call("tell", hours.call("count", 3));
            s.call("tell", hours.call("kilos", 0));
        }
        return s.feeds("fine 7 + w");
    }

    private static void bad() {
        Script s = town(Document.says("Terms", REFUSED));
        s.outside("roof # 5", 0, 5).outside("roof 0 #", 1, 9).outside("told # 0", 0, 3).outside("told 0 #", 0, 10).outside("as # 0", 0, 3)
            .outside("as 0 #", 0, 5).outside("turns # 0", 0, 3).outside("turns 0 #", 0, 5).outside("set # 1 1", 0, 3)
            .outside("set 0 # 1", 1, 3).outside("set 0 1 #", 1, 9).outside("set 0 2 #", 0, 9).outside("set 1 3 #", 0, 999)
            .outside("sweep # 1", 0, 3).outside("sweep 0 #", 1, 9999).outside("use # 1", 0, 3).outside("use 2 #", 1, 999)
            .outside("deal #", 1, 8);
        s.outside("weather # 0 0", 0, 23).outside("weather 1 # 0", 0, 1).outside("weather 1 0 #", -20, 20).outside("weather 1 1 #", 0, 9)
            .outside("sunset #", 0, 24).outside("run #", 1, 200).outside("kilos #", 0, 6);
        s.outside("behind # 1 0", 0, 3).outside("behind 0 # 0", 0, 200).outside("behind 0 1 #", 0, 3).outside("best # 1 0", 0, 3)
            .outside("best 0 # 0", 1, 72).outside("best 0 1 #", 0, 1).outside("leastRoom # 1", 0, 3).outside("leastRoom 0 #", 0, 200)
            .outside("gains # 1", 0, 24).outside("gains 0 #", 1, 72).outside("explained # 0", 0, 3).outside("explained 0 #", 0, 1)
            .outside("fine #", 0, 3);
        Script t = town(Document.says("Terms", REFUSED));
        t.outside("trim #", 0, 10).outside("textTold # 0", 0, 2).outside("textTold 0 #", 0, 1).outside("why #", 0, 2)
            .outside("sheet # 0 1", 0, 3).outside("sheet 0 # 1", -1, 1).outside("mark # 0 0", 0, 3).outside("pour #", 0, 3)
            .outside("reads #", 0, 3).outside("copy # 0 0 0 1", 0, 3).outside("copy 0 0 # 0 1", 0, 3).outside("lay # 0 0", 0, 4)
            .outside("lay 0 # 0", 0, 3).outside("lay 3 1 #", 0, 3).outside("lay 3 2 #", 0, 3).outside("ask # 0", 0, 4)
            .outside("ask 0 #", 0, 5).outside("item # 0", 0, 4).outside("rest # 1", 0, 4).outside("count #", 0, 8);
        t.leaves("sheet 0 0 25 = BAD", "sheet 2 1 MAX = BAD", "mark 1 0 100000 = BAD", "mark 1 1 -100000 = BAD");
    }

    private static void findings() {
        town(Document.says("Terms", REFUSED)).leaves("as 0 2 = KIND", "as 3 3 = KIND", "explained 2 0 = NOTHING", "sheet 0 0 -1 = SIZE",
            "sheet 2 1 MIN = SIZE", "mark 2 0 0 = NOTHING", "mark 0 2 0 = INDEX", "mark 0 -1 0 = INDEX", "mark 3 0 0 = INDEX",
            "mark 0 0 NONE = KIND", "pour 2 = NOTHING", "reads 2 = NOTHING", "copy 2 0 0 0 1 = NOTHING", "copy 0 0 2 0 1 = NOTHING",
            "copy 0 0 1 0 1 = KIND", "copy 1 0 0 0 1 = KIND", "copy 0 0 0 0 3 = INDEX", "copy 0 1 0 0 2 = INDEX", "copy 0 0 0 1 2 = INDEX",
            "copy 0 0 3 0 1 = INDEX", "copy 0 0 0 0 -1 = INDEX", "lay 3 2 2 = NOTHING", "lay 1 2 2 = NOTHING", "ask 3 0 = NOTHING",
            "ask 1 0 = KIND", "ask 2 0 = KIND", "ask 0 1 = KIND", "item 3 0 = NOTHING", "item 0 0 = KIND", "item 2 0 = KIND",
            "item 1 3 = INDEX", "item 1 -1 = INDEX", "item 1 1 = KIND", "rest 3 1 = NOTHING", "rest 0 1 = KIND", "rest 1 1 = KIND",
            "rest 2 0 = NO");
    }

    private static void several() {
        town(Document.says("Terms", REFUSED)).leaves("as 4 6 = BAD", "set 4 9 9 = BAD", "explained 2 2 = BAD", "explained 4 2 = BAD",
            "sheet 4 0 -1 = BAD", "sheet 0 2 -1 = BAD", "sheet 4 2 25 = BAD", "mark 4 9 NONE = BAD", "mark 2 9 NONE = NOTHING",
            "mark 0 9 NONE = INDEX", "mark 3 0 NONE = INDEX", "mark 1 9 100000 = INDEX", "copy 4 9 2 9 9 = BAD", "copy 2 9 4 9 9 = BAD",
            "copy 2 9 0 9 9 = NOTHING", "copy 1 9 2 9 9 = NOTHING", "copy 0 9 1 9 9 = KIND", "copy 1 -1 3 -1 -1 = KIND", "lay 5 2 2 = BAD",
            "lay 3 4 2 = BAD", "ask 5 6 = BAD", "ask 3 6 = BAD", "ask 2 6 = BAD", "item 5 9 = BAD", "item 3 9 = NOTHING", "item 0 9 = KIND",
            "item 2 -1 = KIND", "rest 5 0 = BAD", "rest 3 0 = NOTHING", "rest 0 0 = KIND", "rest 1 0 = KIND", "rest 2 0 = NO");
        Document.says("Terms", REFUSED).leaves("gains 25 1 = BAD", "gains 0 73 = BAD", "gains 0 1 = NONE", "why 3 = BAD", "why 0 = NONE",
            "check 0 = BAD", "check 31 = BAD", "check 1 = NO");
    }

    private static void full() {
        Script roofs = town(Document.says("Terms", REFUSED)).say("deal 8 = 4").leaves("roof 0 1 = FULL", "roof 6 1 = BAD", "roof 0 0 = BAD",
            "deal 1 = 0", "deal 9 = BAD");
        roofs.leaves("count 0 = 8");
        Script tape = town(Document.says("Terms", REFUSED));
        for (int i = 1; i <= 7; i++) {
            tape.say("feed 538976288 538976288 538976288 = " + (10 + 12 * i));
        }
        tape.leaves("feed 0 0 0 = FULL", "feed 1 2 3 = FULL", "trim 95 = BAD", "trim -1 = BAD", "count 7 = 94")
            .say("text = 3", "count 7 = 0");
        Script numbers = begun(Document.says("Terms", REFUSED));
        for (int i = 1; i <= 60; i++) {
            numbers.say("tell " + i + " = " + i);
        }
        numbers.leaves("tell 0 = FULL", "tell MAX = FULL", "count 6 = 60");
    }

    private static void noImage() {
        Skies.snowyStreet(Document.says("Terms", REFUSED)).say("roof 1 2 = 0", "sweep 0 5 = 5", "sheet 0 0 1 = 1", "lay 0 1 0 = 0")
            .leaves("back = NO", "check 1 = NO", "check 30 = NO", "check 31 = BAD").feeds("fine 1").leaves("back = NO").say("tell 4 = 1")
            .leaves("back = NO");
    }

    private static Script crowded(Script s) {
        begun(s);
        for (int i = 2; i < 14; i++) {
            s.reads("fine " + i, i);
        }
        return s;
    }

    /** The tape is used up by what reads it, the numbers by a check, and that is all. */
    private static void tapeAndNumbers() {
        Script plain = begun(new Script("begun"));
        begun(Document.says("Terms", REFUSED)).reads("fine 7 + h", -109).isAs(plain).reads("melt", -104).isAs(plain)
            .reads("owner 1 2", -108).isAs(plain);
        crowded(Document.says("Terms", REFUSED)).reads("owner 0", RoofSnow.FULL).isAs(crowded(new Script("fourteen")))
            .reads("melt 1)", -106).isAs(crowded(new Script("fourteen")));
        begun(Document.says("Terms", REFUSED)).say("tell 4 = 1", "tell 5 = 2", "check 0 = BAD").isAs(plain)
            .say("tell 4 = 1", "check 31 = BAD").isAs(plain);
        Script noImage = Skies.snowyStreet(new Script("no image"));
        Skies.snowyStreet(Document.says("Terms", REFUSED)).say("tell 4 = 1", "check 2 = NO").isAs(noImage);
        // the tape stays with a check, the numbers stay with a text
        begun(Document.says("Terms", REFUSED)).feeds("fine 77").say("tell 4 = 1", "check 0 = BAD", "count 7 = 7", "tell 4 = 1", "text = 2",
            "count 6 = 1", "fine 0 = 77").reads("fine", -104).say("count 6 = 1");
    }

    private static void none() {
        Document.says("Terms", "NONE: there is none.").leaves("slide = NONE", "gains 5 5 = NONE", "why 0 = NONE", "why 1 = NONE",
            "why 2 = NONE").say("sheet 0 0 0 = 0").leaves("reads 0 = NONE").say("roof 0 1 = 0").reads("melt 1", 0)
            .leaves("gains 5 5 = 0", "why 0 = 0", "why 1 = NONE").say("sheet 0 0 2 = 2").leaves("reads 0 = 1", "slide = NONE");
    }

    /** Calls that ask change nothing either, whatever they answer. */
    private static void asking() {
        Script s = town(Document.term(3, "nothing changes.)"));
        for (int roof = 0; roof < 4; roof++) {
            for (int what = 0; what < 4; what++) {
                s.keeps("behind " + roof + " 200 " + what);
            }
            s.keeps("best " + roof + " 72 0", "best " + roof + " 72 1", "leastRoom " + roof + " 200", "fine " + roof);
            for (int what = 0; what <= 10; what++) {
                s.keeps("told " + roof + " " + what);
            }
        }
        for (int what = 0; what <= 8; what++) {
            s.keeps("count " + what, "kilos " + what % 7, "why " + what % 3, "textTold " + what % 3 + " " + what % 2);
        }
        for (int v = 0; v <= 24; v += 4) {
            s.keeps("gains " + v + " 72");
        }
        s.keeps("slide", "explained 0 0", "explained 1 1", "explained 3 0", "reads 0", "reads 1", "reads 3", "ask 0 0", "ask 0 5",
            "item 1 0", "item 4 1", "rest 2 3", "as 0 1", "as 1 2", "trim 10");
    }
}
