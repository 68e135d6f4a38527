/** Part 4 of Terms and promises 23 to 27: each sentence at its bounds and on both sides of them. */
final class SentencesOfTexts {
    private SentencesOfTexts() {
    }

    static void all() {
        fourteenTexts();
        usedUp();
        keys();
        grammar();
        strength();
        names();
        words();
        blanks();
        faults();
        depths();
        theEnd();
        values();
        lastTold();
        tape();
        textNumbers();
        textsTold();
    }

    /** Each row on a new object with one roof: the bytes, and what text() answers for them. */
    private static void each(String words, Object... rows) {
        for (int i = 0; i < rows.length; i += 2) {
            Document.term(4, words).say("roof 0 1 = 0").reads((String) rows[i], (Integer) rows[i + 1]).say("count 7 = 0");
        }
    }

    /** Each row on a new object with one roof: what stands behind fine, and what fine() answers then. */
    private static void gives(String words, Object... rows) {
        for (int i = 0; i < rows.length; i += 2) {
            Document.term(4, words).say("roof 0 1 = 0").reads("fine " + rows[i], 0).leaves("fine 0 = " + rows[i + 1]);
        }
    }

    private static Script withTexts(Script s, int many) {
        for (int i = 0; i < many; i++) {
            s.reads("fine " + i, i);
        }
        return s;
    }

    private static void fourteenTexts() {
        String words = "TEXTS, 14 at most, numbered from 0,";
        Script s = Document.term(4, words).say("roof 0 1 = 0").leaves("textTold 0 0 = BAD");
        withTexts(s, 13).leaves("count 5 = 13", "textTold 12 0 = 2", "textTold 13 0 = BAD", "textTold -1 0 = BAD", "fine 0 = 12")
            .say("keep = 1");
        s.reads("fine 13", 13).leaves("count 5 = 14", "textTold 13 0 = 2", "textTold 14 0 = BAD", "fine 0 = 13");
        s.reads("fine 14", RoofSnow.FULL).leaves("count 5 = 14", "fine 0 = 13", "why 2 = 13");
        // behind the image there is room for one again
        s.say("back = 1").leaves("count 5 = 13", "fine 0 = 12").reads("fine 77", 13).leaves("fine 0 = 77").reads("fine 78", RoofSnow.FULL);
    }

    private static void usedUp() {
        String words = "from THE TAPE (96 bytes at most; an act that reads it uses it up, whatever it answers):";
        Script untouched = new Script("no tape").say("roof 0 1 = 0");
        Document.term(4, words).say("roof 0 1 = 0").reads("fine 1+", -107).isAs(untouched).leaves("count 7 = 0").reads("", -100)
            .isAs(untouched);
        Document.term(4, words).say("roof 0 1 = 0").reads("fine 12345", -105).isAs(untouched);
        Script full = withTexts(new Script("14 texts").say("roof 0 1 = 0"), 14);
        withTexts(Document.term(4, words).say("roof 0 1 = 0"), 14).reads("owner 1", RoofSnow.FULL).isAs(full)
            .leaves("count 7 = 0", "told 0 9 = 0").reads("owner 1 1", -108).isAs(full);
        Document.term(4, words).say("roof 0 1 = 0").reads("fine 1", 0).leaves("count 7 = 0").say("text = -100");
        Script most = Document.term(4, words);
        for (int i = 1; i <= 8; i++) {
            most.say("feed 538976288 538976288 538976288 = " + 12 * i);
        }
        most.leaves("feed 1 2 3 = FULL", "count 7 = 96").say("text = -196", "count 7 = 0", "feed 0 0 0 = 12");
    }

    private static void keys() {
        each("KEY E. KEY: melt | owner | fine.", "melt 1", 0, "owner 1", 0, "fine 1", 0, "mel 1", -100, "melts 1", -100, "owne 1", -100,
            "owners 1", -100, "fin 1", -100, "fines 1", -100, "fime 1", -100, "gine 1", -100, "fina 1", -100, "MELT 1", -100, "w", -100,
            "1", -100, "(fine 1)", -100, "fine", -104, "fine fine", -105, "fine 1 fine 1", -107, "fine melt", -105, "fine 1 1", -107);
    }

    private static void grammar() {
        each("E, the loosest first: OR: AND { | AND };", "fine 1", 0, "fine 1|2", 0, "fine 1|2|3", 0, "fine 1|", -107, "fine |1", -105,
            "fine 1||2", -107);
        each("AND: TEST { & TEST };", "fine 1&2", 0, "fine 1&2&3", 0, "fine 1&", -107, "fine &1", -105, "fine 1&&2", -107, "fine 1&|2",
            -107);
        each("TEST: SUM [ (< | = | >) SUM ];", "fine 1<2", 0, "fine 1=2", 0, "fine 1>2", 0, "fine 1<2<3", -108, "fine 1=2=3", -108,
            "fine 1>2=3", -108, "fine 1<", -107, "fine <1", -105, "fine 1<=2", -107, "fine 1<>2", -107, "fine 1==2", -107, "fine 1<2&3<4",
            0, "fine 1<2|3<4", 0, "fine (1<2)<3", 0, "fine 1<(2<3)", 0, "fine 1<2&3<4<5", -112, "fine (1<2<3)", -109, "fine 1<2+3<4", -110,
            "fine !1<2", 0, "fine 1!<2", -106);
        each("SUM: TERM { (+ | -) TERM };", "fine 1+2", 0, "fine 1-2", 0, "fine 1+2-3+4", 0, "fine 1+", -107, "fine +1", -105, "fine -1",
            -105, "fine 1++2", -107, "fine 1--2", -107, "fine 1+-2", -107);
        each("TERM: PIECE { (* | /) PIECE };", "fine 1*2", 0, "fine 1/2", 0, "fine 1*2/3*4", 0, "fine 1*", -107, "fine *1", -105,
            "fine 1**2", -107, "fine 1//2", -107, "fine 1*/2", -107, "fine 1*-2", -107);
        each("PIECE: NUMBER (1 to 4 digits) | NAME | ! PIECE | ( E ).", "fine 0", 0, "fine 9", 0, "fine 10", 0, "fine 999", 0, "fine 1000",
            0, "fine 9999", 0, "fine 10000", -105, "fine 00000", -105, "fine 0000", 0, "fine 1+10000", -107, "fine 123456789", -105,
            "fine w", 0, "fine !w", 0, "fine !!1", 0, "fine !(1)", 0, "fine (!1)", 0, "fine (1)", 0, "fine ()", -106, "fine !", -106,
            "fine !)", -106, "fine !+1", -106, "fine (1", -107, "fine 1)", -106, "fine (1))", -108, "fine )1(", -105, "fine 1(2)", -106,
            "fine (1)2", -108, "fine (1)(2)", -108, "fine 1!2", -106, "fine (1+)", -108, "fine (1 2)", -108);
    }

    /** The loosest sign is worked out last; of one strength, from the left on. */
    private static void strength() {
        gives("E, the loosest first:", "1|0&0", 1, "0&0|1", 1, "(1|0)&0", 0, "0&1<2", 0, "(0&1)<2", 1, "2<1+5", 1, "(2<1)+5", 5, "5+(2<1)",
            5, "1+2*3", 7, "(1+2)*3", 9, "2*3+1", 7, "!0*5", 5, "!(0*5)", 1, "!1+1", 1, "!(1+1)", 0, "1=1&2=2", 1, "5=1|2", 1, "5=(1|2)", 0,
            "3-1<3&1", 1);
        gives("SUM: TERM { (+ | -) TERM };", "10-4-3", 3, "10-(4-3)", 9, "10-4+3", 9, "0-1", -1, "1-1", 0);
        gives("TERM: PIECE { (* | /) PIECE };", "100/7/2", 7, "100/(7/2)", 33, "7*3/2", 10, "7/2*3", 9, "7/(2*3)", 1);
    }

    private static void names() {
        String words = "NAMES, each one letter: of melt w WARMTH, s SNOW, z SIZE; of owner h the hour of the day, w WARMTH; of fine w "
            + "WATER of the ROOF, s STOLEN";
        String[] known = {"swz", "hw", "sw"};
        String[] keys = {"melt", "owner", "fine"};
        for (int key = 0; key < 3; key++) {
            for (char c = 'a'; c <= 'z'; c++) {
                int fault = -100 - keys[key].length() - 1;
                each(words, keys[key] + " " + c, known[key].indexOf(c) >= 0 ? 0 : fault);
            }
            each(words, keys[key] + " ww", -100 - keys[key].length() - 1);
        }
        Script melt = Skies.snowyStreet(Document.term(4, words)).say("roof 2 7 = 0", "sweep 0 90 = 90", "set 0 2 4 = 0",
            "weather 1 0 -1 = 0");
        melt.reads("melt w", 0).leaves("told 0 7 = 3").reads("melt s-1", 1).leaves("told 0 7 = 89").reads("melt z", 2)
            .leaves("told 0 7 = 7");
        Script owner = Document.term(4, words).say("roof 0 1 = 0").reads("owner h=23|w=29", 0).leaves("told 0 9 = 0")
            .say("weather 0 0 20 = 0", "set 0 2 8 = 0");
        owner.leaves("told 0 9 = 0").say("set 0 2 9 = 8").leaves("told 0 9 = 1").say("run 22 = 0").leaves("told 0 9 = 0").say("run 1 = 0")
            .leaves("told 0 9 = 1").say("run 1 = 0", "set 0 2 0 = 9").leaves("told 0 9 = 0").reads("owner h", 1).leaves("told 0 9 = 0");
        Script fine = Skies.snowyStreet(Document.term(4, "(what fine gives for a ROOF is told by fine(); without a TEXT: STOLEN)."))
            .say("roof 2 9 = 0", "roof 2 1 = 1", "sweep 1 6 = 6", "weather 1 0 1 = 0", "weather 1 1 5 = 0", "run 1 = 0")
            .leaves("fine 0 = 6", "fine 1 = 6");
        fine.reads("fine w", 0).leaves("fine 0 = 45", "fine 1 = 5").reads("fine s", 1).leaves("fine 0 = 6", "fine 1 = 6")
            .reads("fine w*100+s", 2).leaves("fine 0 = 4506", "fine 1 = 506", "fine 2 = BAD");
    }

    private static void words() {
        // the bytes ahead of and behind a .. z and 0 .. 9 are signs by themselves; / is one that a text knows
        each("A word is a row of letters a .. z, or of digits, as long as it goes; any other byte is a sign by itself.", "fine w`", -106,
            "fine w{", -106, "fine `", -105, "fine {", -105, "fine 1:", -106, "fine :1", -105, "fine 1/1", 0, "fine 0", 0, "fine 9", 0,
            "fine wa", -105, "fine wz", -105, "fine sw", -105, "fine W", -105, "finE 1", -100, "Fine 1", -100, "fi\u00e9ne 1", -100,
            "fine w\u00ff", -106, "fine \u0080", -105, "fine 1\u0000", -106, "\u0000fine 1", -100, "\u00fffine 1", -100, "fine _", -105,
            "fine 1.0", -106, "fine 1#", -106, "fine 0009", 0, "fine 0 9", -107, "fine 1%2", -106, "fine #1", -105, "fine\"1", -104);
        gives("A word is a row of letters a .. z, or of digits, as long as it goes;", "0009", 9, "1234", 1234, "9876", 9876, "0", 0);
    }

    private static void blanks() {
        each("Between words and signs, and at the ends, there may be blanks (byte 32);", "fine(1)", 0, "fine (1)", 0, "  fine  (  1  )  ",
            0, "fine!1", 0, "fine ! ! 1", 0, "fine 1+1", 0, "fine 1 + 1", 0, "fine 1 +1", 0, "fine 1+ 1", 0, " fine 1", 0, "fine 1 ", 0,
            "fine\u001f1", -104, "fine\t1", -104, "fine\n1", -104, "fine\u00a01", -104, "fine 1\n", -106, "\tfine 1", -100, "fine 1\u001f",
            -106, "fi ne 1", -100, "fine 1 2", -107, "fine 1    2", -110);
        each("a word right behind another one needs one.", "fine1", -104, "fine 1", 0, "fine  1", 0, "owner1", -105, "owner 1", 0,
            "fine 1w", -106, "fine w1", -106, "fine 1 w", -107, "1fine", -100, "fine12345", -104, "fine(1)w", -107, "melt9", -104, "finew",
            -100);
    }

    private static void faults() {
        String words = "FAULT: the first byte of the first word or sign with which no TEXT goes on";
        each(words, "x", -100, " x", -101, "fine x", -105, "fine   x", -107, "fine 1 x", -107, "fine 1+x", -107, "fine 1+xyz", -107,
            "fine 1+ xyz", -108, "fine 1 + ( w * q )", -115, "fine h", -105, "owner s", -106, "melt h", -105, "fine (1 w)", -108,
            "fine 1 +* 2 +* 3", -108, "fine # #", -105);
        each("(a word that needs a blank ahead of it,", "fine1", -104, "fine1+", -104, "fine12345", -104, "melt1", -104, "owner0", -105);
        each("a NUMBER of more than 4 digits,", "fine 9999", 0, "fine 10000", -105, "fine 1+ 00001", -108, "fine 12345 67", -105,
            "fine (((12345", -108);
    }

    private static void depths() {
        String words = "the ninth ( that would be open within others,";
        each(words, "fine (((((((1)))))))", 0, "fine ((((((((1))))))))", 0, "fine (((((((((1)))))))))", -113, "fine ((((((((((1", -113,
            "fine ((((((((1))))))))+((((((((2))))))))", 0, "fine ((((((((1)+(2)))))))) ", 0, "fine ((((((((1+(2)))))))))", -115,
            "fine ((((((((1)+((2", -117, "fine 1+2*(((((((( (", -118);
        String nots = "the ninth ! likewise,";
        each(nots, "fine !!!!!!!1", 0, "fine !!!!!!!!1", 0, "fine !!!!!!!!!1", -113, "fine !!!!!!!! !1", -114, "fine !!!!!!!!1+!!!!!!!!2",
            0, "fine !!!!!!!!1+!!!!!!!!!2", -123, "fine !!!!(!!!!1)", 0, "fine !!!!(!!!!!1)", -114, "fine !!!!(1+!!!!1)+!!!!!!!!1", 0,
            "fine !(!(!(!(!(!(!(!(1))))))))", 0, "fine !(!(!(!(!(!(!(!(!1", -121);
        each("each by itself);", "fine !!!!!!!!((((((((1))))))))", 0, "fine ((((((((!!!!!!!!1))))))))", 0, "fine !!!!!!!!(((((((((1", -121,
            "fine ((((((((!!!!!!!!!1", -121, "fine !(!(!(!(!(!(!(!(w+1))))))))", 0, "fine !(!(!(!(!(!(!(!((1", -121);
        gives(nots, "!!!!!!!1", 0, "!!!!!!!!1", 1, "!!!!!!!!0", 0);
    }

    private static void theEnd() {
        StringBuilder right = new StringBuilder("fine 1");
        while (right.length() < 96) {
            right.append(right.length() % 2 == 0 ? '+' : '1');
        }
        each("the end (the place behind the last byte), if it comes too soon.", "", -100, " ", -101, "            ", -112, "fine", -104,
            "fine ", -105, "fine      ", -110, "fine (", -106, "fine ( ", -107, "fine !", -106, "fine 1+", -107, "fine 1+ ", -108,
            "fine (1", -107, "fine ((1)", -109, "fine ((1) ", -110, "fine 1<", -107, "fine 1&", -107, "fine 1|", -107, "fine 1*", -107,
            right.toString(), 0, right.substring(0, 95), -195, right.substring(0, 94), 0, right.substring(0, 95) + " ", -196,
            "fine(" + right.substring(5), -196, right.substring(0, 95) + "+", -195, "fine 1" + " ".repeat(90), 0, " ".repeat(90) + "fine 1",
            0, " ".repeat(92) + "fine", -196, " ".repeat(96), -196);
    }

    private static void values() {
        gives("Ints wrap;", "8192*8192*32-1", Integer.MAX_VALUE, "8192*8192*32", Integer.MIN_VALUE, "8192*8192*32-1+1", Integer.MIN_VALUE,
            "8192*8192*32-1-1", Integer.MAX_VALUE - 1, "(0-8192)*8192*32-1", Integer.MAX_VALUE, "8192*8192*64", 0, "9999*9999*9999",
            -1027349969, "8192*8192*32*(0-1)", Integer.MIN_VALUE, "8192*8192*32/(0-1)", Integer.MIN_VALUE, "0-8192*8192*32",
            Integer.MIN_VALUE);
        gives("/ is 0 by 0;", "1/0", 0, "0/0", 0, "(0-9999)/0", 0, "9/(w-w)", 0, "8192*8192*32/0", 0, "7+5/0*2", 7, "1/1", 1, "5/(0-1)",
            -5);
        gives("tests, & | ! give 1 or 0 (what is not 0 is true; both sides are worked out).", "1<2", 1, "2<2", 0, "3<2", 0, "1=2", 0, "2=2",
            1, "3=2", 0, "1>2", 0, "2>2", 0, "3>2", 1, "0-1<0", 1, "0-1>0", 0, "0-1=0", 0, "5&7", 1, "5&0", 0, "0&5", 0, "0&0", 0,
            "(0-1)&2", 1, "5|7", 1, "5|0", 1, "0|5", 1, "0|0", 0, "0|0-1", 1, "!0", 1, "!1", 0, "!7", 0, "!(0-1)", 0, "!!7", 1, "0&1/0", 0,
            "1|1/0", 1, "8192*8192*32<8192*8192*32-1", 1, "4&2", 1, "4|2", 1, "2&1", 1);
        Document.says("Terms", "All numbers are whole; / cuts towards 0.").say("roof 0 1 = 0").reads("fine 7/2", 0).leaves("fine 0 = 3")
            .reads("fine (0-7)/2", 1).leaves("fine 0 = -3").reads("fine 7/(0-2)", 2).leaves("fine 0 = -3").reads("fine (0-7)/(0-2)", 3)
            .leaves("fine 0 = 3").reads("fine 1/2", 4).leaves("fine 0 = 0").reads("fine (0-1)/2", 5).leaves("fine 0 = 0")
            .reads("fine (0-2)/2", 6).leaves("fine 0 = -1").reads("fine 8/2", 7).leaves("fine 0 = 4");
    }

    private static void lastTold() {
        Script s = Document.term(4, "Of a KEY that TEXT counts that was told last.").say("roof 0 1 = 0").reads("fine 1", 0)
            .leaves("fine 0 = 1", "why 2 = 0").reads("owner 1", 1).leaves("fine 0 = 1", "told 0 9 = 1", "why 2 = 0", "why 1 = 1")
            .reads("fine 2", 2).leaves("fine 0 = 2", "why 2 = 2", "why 1 = 1");
        // one that is refused does not count
        s.reads("fine 3+", -107).leaves("fine 0 = 2", "why 2 = 2").reads("owner 0", 3).leaves("told 0 9 = 0", "why 1 = 3", "fine 0 = 2");
        s.reads("fine 1", 4).leaves("fine 0 = 1", "why 2 = 4", "why 0 = NONE");
    }

    private static void tape() {
        // "fine", " 1+2", "*34 "; then a byte with its highest bit, which no text knows; then seven digits
        Script s = Document.promise(23, "Twelve bytes come to THE TAPE, the highest of each number first: how many it has.")
            .say("roof 0 1 = 0", "feed 1718185573 540093234 707998752 = 12", "text = 0", "textTold 0 1 = 3", "fine 0 = 69",
            "feed 1718185573 540114976 825307441 = 12", "text = -106");
        s.say("feed 1718185573 540094769 825307441 = 12", "text = -105", "feed -1 -1 -1 = 12", "text = -100",
            "feed 538976288 538976288 538976511 = 12", "text = -111");
        s.say("feed 1718157312 0 0 = 12", "trim 2 = 2", "feed 1852121143 538976288 538976288 = 14", "count 7 = 14", "text = 1",
            "fine 0 = 7");
        s.say("feed MIN MAX 0 = 12", "text = -100", "feed 0 0 0 = 12", "feed 0 0 0 = 24", "feed 0 0 0 = 36");
        for (int before = 82; before <= 86; before++) {
            Script t = Document.promise(23, "FULL: it would have more than 96.");
            for (int i = 1; i <= 8; i++) {
                t.say("feed 1718185573 540024864 538976288 = " + 12 * i);
            }
            t.say("trim " + before + " = " + before);
            if (before <= 84) {
                t.say("feed 1 2 3 = " + (before + 12), "count 7 = " + (before + 12));
            } else {
                t.leaves("feed 1 2 3 = FULL", "feed -1 MIN MAX = FULL", "count 7 = " + before);
            }
        }
        Script most = Document.promise(23, "FULL: it would have more than 96.");
        for (int i = 1; i <= 8; i++) {
            most.say("feed 538976288 538976288 538976288 = " + 12 * i);
        }
        most.leaves("feed 0 0 0 = FULL").say("trim 95 = 95").leaves("feed 0 0 0 = FULL").say("text = -195", "feed 0 0 0 = 12");

        Script trim = Document.promise(24, "THE TAPE keeps its first n bytes: n.").say("roof 0 1 = 0").feeds("fine 12345")
            .leaves("trim 10 = 10");
        trim.say("trim 9 = 9", "text = 0", "fine 0 = 1234").feeds("fine 12345").say("trim 6 = 6", "count 7 = 6", "text = 1", "fine 0 = 1")
            .feeds("fine 1").say("trim 5 = 5", "text = -105").feeds("fine 1").say("trim 1 = 1", "trim 0 = 0", "count 7 = 0", "text = -100")
            .leaves("trim 0 = 0");
        Document.promise(24, "BAD.").outside("trim #", 0, 0).feeds("fine 1").outside("trim #", 0, 6).feeds("f".repeat(96))
            .outside("trim #", 0, 96).say("trim 95 = 95").outside("trim #", 0, 95);
    }

    private static void textNumbers() {
        Script s = Document.promise(25, "THE TAPE is a TEXT: its number.").say("roof 0 1 = 0").reads("fine 5", 0).leaves("fine 0 = 5")
            .reads("melt 5", 1).leaves("why 0 = 1").say("keep = 1").reads("fine 6", 2).say("back = 1").reads("fine 7", 2)
            .leaves("fine 0 = 7");
        s.say("back = 1").leaves("fine 0 = 5", "count 5 = 2");
        // a short one takes the number of a long one behind the image, and nothing of the long one is left
        Document.promise(25, "THE TAPE is a TEXT: its number.").say("roof 0 1 = 0", "keep = 1").reads("fine !!!1", 0).leaves("fine 0 = 0")
            .say("back = 1").reads("fine 5", 0).leaves("fine 0 = 5", "textTold 0 1 = 1").say("back = 1").reads("fine !5", 0)
            .leaves("fine 0 = 0").say("back = 1").reads("fine 1+2*3-4", 0).leaves("fine 0 = 3").say("back = 1").reads("fine 9", 0)
            .leaves("fine 0 = 9");
        Script faults = Document.promise(25, "-100 less the place of its FAULT; FULL.").reads("", -100).reads("f", -100).reads(" f", -101)
            .reads("fine", -104).reads(" ".repeat(95) + "x", -195).reads(" ".repeat(95) + "w", -195).reads(" ".repeat(96), -196);
        faults.leaves("count 5 = 0", "why 2 = NONE");
        // of several refusals the fault is first
        Script full = withTexts(Document.promise(25, "-100 less the place of its FAULT; FULL."), 14);
        full.reads("fine 1", RoofSnow.FULL).reads("fine 1)", -106).reads("", -100).reads("melt w", RoofSnow.FULL)
            .leaves("count 5 = 14", "why 2 = 13", "why 0 = NONE");
    }

    private static void textsTold() {
        Script s = Document.promise(26, "Of a TEXT: what 0 KEY (0 melt, 1 owner, 2 fine), 1 how many NUMBERS and NAMES it has.")
            .reads("melt 1", 0).reads("owner h+w*2", 1).reads("fine !(w<12)&!!s|(3)", 2);
        s.leaves("textTold 0 0 = 0", "textTold 1 0 = 1", "textTold 2 0 = 2", "textTold 0 1 = 1", "textTold 1 1 = 3", "textTold 2 1 = 4");
        s.reads("fine w" + "+s".repeat(45), 3).leaves("textTold 3 1 = 46").reads("fine(w" + "+1".repeat(44) + ")", 4)
            .leaves("textTold 4 0 = 2", "textTold 4 1 = 45");
        s.reads("melt!" + "1+".repeat(45) + "1", 5).leaves("textTold 5 0 = 0", "textTold 5 1 = 46");
        Document.promise(26, "BAD.").outside("textTold # 0", 0, -1).reads("melt 1", 0).outside("textTold # 0", 0, 0)
            .outside("textTold # 1", 0, 0).outside("textTold 0 #", 0, 1).leaves("textTold 1 2 = BAD");
        Script why = Document.promise(27, "The TEXT that counts for a KEY.").reads("owner 1", 0).leaves("why 1 = 0").reads("melt 1", 1)
            .leaves("why 0 = 1", "why 1 = 0").reads("owner 1", 2).leaves("why 1 = 2", "why 0 = 1");
        why.say("keep = 0").reads("melt 2", 3).leaves("why 0 = 3").say("back = 0").leaves("why 0 = 1", "why 1 = 2");
        Document.promise(27, "BAD; NONE.").leaves("why 0 = NONE", "why 1 = NONE", "why 2 = NONE").outside("why #", 0, 2).reads("fine 1", 0)
            .leaves("why 0 = NONE", "why 1 = NONE", "why 2 = 0").outside("why #", 0, 2).reads("owner 1", 1)
            .leaves("why 0 = NONE", "why 1 = 1");
    }
}
