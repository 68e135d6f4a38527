/** Promises 23 to 27, and what texts do to the rest. */
public final class TextsTest {
    public static void main(String[] args) {
        feedAndTrim();
        words();
        faults();
        depths();
        fullAndKeys();
        values();
        laws();
        Due.end();
    }

    private static void feedAndTrim() {
        Script s = new Script("promises 23 and 24");
        s.say("trim 0 = 0", "trim 1 = BAD", "trim -1 = BAD", "feed 0 0 0 = 12", "count 7 = 12", "trim 13 = BAD", "trim 12 = 12",
            "trim 7 = 7", "count 7 = 7");
        for (int i = 1; i <= 7; i++) {
            s.say("feed -1 -1 -1 = " + (7 + 12 * i));
        }
        s.say("feed 1 2 3 = FULL", "count 7 = 91", "trim 84 = 84", "feed 1 2 3 = 96", "feed 1 2 3 = FULL", "trim 97 = BAD",
            "count 7 = 96", "text = -100", "count 7 = 0", "text = -100");
        // the highest byte first: "fine", " 12 ", "    "
        s.say("roof 0 1 = 0", "feed 1718185573 540095008 538976288 = 12", "text = 0", "fine 0 = 12");
        // the bytes that are there go on: "fi" and then "ne 7"
        s.say("feed 1718157312 0 0 = 12", "trim 2 = 2", "feed 1852121143 538976288 538976288 = 14", "text = 1", "fine 0 = 7");
    }

    private static void words() {
        Script s = new Script("promise 25, words");
        s.reads("fine(1)", 0).reads("  fine   1  ", 1).reads("fine!1", 2).reads("fine 0001", 3).reads("fine 1+w", 4);
        s.reads("fine 1 + w", 5).reads("owner h|w", 6).reads("melt w*s*z", 7);
        s.reads("fine1", -104).reads("fine 1w", -106).reads("fine w1", -106).reads("fine 1 w", -107).reads("finew", -100);
        s.reads("fine 10000", -105).reads("fine 00001", -105).reads("fine 1+12345", -107).reads("fine ww", -105);
        s.reads("Fine 1", -100).reads("fine W", -105).reads("fines 1", -100).reads("fin e 1", -100).reads("xfine 1", -100);
        s.reads("xine 1", -100).reads("finea 1", -100).reads("finez 1", -100).reads("fine9 1", -104).reads("fine 1a", -106);
        s.reads("fine\t1", -104).reads("fine 1\u00ff", -106).reads("\u0000fine 1", -100).reads("fine 1\u0000", -106);
        s.reads("1fine 1", -100).reads("fine fine 1", -105).reads("melt 1 melt", -107);
    }

    private static void faults() {
        Script s = new Script("promise 25, faults");
        s.reads("", -100).reads("   ", -103).reads("fine", -104).reads("fine  ", -106).reads("fine 1 +", -108);
        s.reads("fine 1 + ", -109).reads("fine (1", -107).reads("fine !", -106).reads("fine (", -106).reads("fine 1<", -107);
        s.reads("fine )", -105).reads("fine 1)", -106).reads("fine ()", -106).reads("fine (1))", -108).reads("fine +1", -105);
        s.reads("fine -1", -105).reads("fine 1--1", -107).reads("fine 1!", -106).reads("fine 1(1)", -106).reads("fine (1)1", -108);
        s.reads("fine (1)(1)", -108).reads("fine 1<2<3", -108).reads("fine 1=2>3", -108).reads("fine 1<=2", -107);
        s.reads("fine 1&&1", -107).reads("fine 1||1", -107).reads("fine 1==1", -107).reads("fine 1%2", -106).reads("fine #", -105);
        s.reads("fine h", -105).reads("fine z", -105).reads("owner s", -106).reads("owner z", -106).reads("melt h", -105);
        s.reads("fine 1<2&3<4|5>6", 0).reads("fine (1<2)<3", 1).reads("fine 1<(2<3)", 2).reads("fine 1<2 & 3<4<5", -114);
        s.reads("fine !w*!s", 3).reads("fine !(w)/!!s", 4);
    }

    private static void depths() {
        Script s = new Script("promise 25, depths");
        s.reads("fine ((((((((1))))))))", 0).reads("fine (((((((((1)))))))))", -113).reads("fine !!!!!!!!1", 1);
        s.reads("fine !!!!!!!!!1", -113).reads("fine (((( ((((1)))) + ((((1)))) ))))", 2);
        s.reads("fine (((( ((((1)))) + (((((1))))) ))))", -126).reads("fine ((((((((1)))))))) + ((((((((1))))))))", 3);
        s.reads("fine !!!!!!!!1 + !!!!!!!!1", 4).reads("fine !!!!!!!!1 + !!!!!!!!!1", -125);
        s.reads("fine !(!(!(!(!(!(!(!(1))))))))", 5).reads("fine !(!(!(!(!(!(!(!(!1))))))))", -121);
        s.reads("fine !!!!(!!!!1)", 6).reads("fine !!!!(!!!!1 + !!!!2)", 7).reads("fine !!!!(!!!!!1)", -114);
        s.reads("fine !!!!(1) + !!!!!!!!(1)", 8).reads("fine !!!!!!!!((((((((1))))))))", 9);
        s.reads("fine !!!!!!!!(((((((((1", -121).reads("fine ((((((((!!!!!!!!!", -121);
        s.say("textTold 2 1 = 2", "textTold 9 1 = 1");
        StringBuilder most = new StringBuilder("fine 1");
        while (most.length() < 96) {
            most.append(most.length() % 2 == 0 ? '+' : '1');
        }
        s.reads(most.toString(), 10).say("textTold 10 1 = 46", "roof 0 1 = 0", "fine 0 = 46");
        // the deepest stack that 96 bytes can ask for
        s.reads("fine 1+2*(3+4*(5+6*(7+8*(9+1*(2+3*(4+5*(6+7))))))) < 2 + 3 * 4 & 1 | 9", 11);
        s.reads("fine 1|2&3<4+5*(1|2&3<4+5*(1|2&3<4+5*(1|2&3<4+5*(1|2&3<4+5*(1|2&3<4+5*(1|2&3<4+5*7))))))", 12);
        s.say("fine 0 = 1");
    }

    private static void fullAndKeys() {
        Script s = new Script("promises 25 to 27");
        s.say("why 0 = NONE", "why 3 = BAD", "why -1 = BAD", "textTold 0 0 = BAD");
        String[] keys = {"melt", "owner", "fine"};
        for (int i = 0; i < 14; i++) {
            s.reads(keys[i % 3] + " w + " + i + " * (w - 2)", i).say("why " + i % 3 + " = " + i, "count 5 = " + (i + 1));
        }
        s.reads("melt w", RoofSnow.FULL).say("count 7 = 0", "count 5 = 14", "why 0 = 12");
        s.reads("melt", -104).say("count 7 = 0");
        for (int i = 0; i < 14; i++) {
            s.say("textTold " + i + " 0 = " + i % 3, "textTold " + i + " 1 = 4", "textTold " + i + " 2 = BAD");
        }
        s.say("textTold 14 0 = BAD", "textTold -1 0 = BAD", "textTold 0 -1 = BAD", "why 1 = 13", "why 2 = 11");
    }

    private static void values() {
        String[][] due = {{"1+2*3", "7"}, {"(1+2)*3", "9"}, {"10-4-3", "3"}, {"100/7/2", "7"}, {"100/(7/2)", "33"}, {"7*3/2", "10"},
            {"7/2*3", "9"}, {"1-2", "-1"}, {"(1-8)/2", "-3"}, {"5/0", "0"}, {"0/0", "0"}, {"1<2", "1"}, {"2<1", "0"}, {"1<1", "0"},
            {"2>1", "1"}, {"1>1", "0"}, {"3=3", "1"}, {"3=4", "0"}, {"1+1=2", "1"}, {"2=1+1", "1"}, {"5&0", "0"}, {"5&7", "1"},
            {"0|0", "0"}, {"0|9", "1"}, {"1|0&0", "1"}, {"(1|0)&0", "0"}, {"!0", "1"}, {"!7", "0"}, {"!!7", "1"}, {"!0+5", "6"},
            {"!(0+5)", "0"}, {"!0*3", "3"}, {"1&2<1", "0"}, {"(1&2)<1", "0"}, {"(1&2)<2", "1"}, {"0|1-1", "0"}, {"(0-1)&1", "1"},
            {"9999*9999*9999", "" + 9999 * 9999 * 9999}, {"(0-1)*9999*9999*43/3", "" + -9999 * 9999 * 43 / 3}, {"0005+1", "6"},
            {"w", "0"}, {"s", "0"}};
        for (String[] d : due) {
            new Script("values").reads("fine " + d[0], 0).say("roof 0 1 = 0", "fine 0 = " + d[1]);
        }
        // the least int by -1 wraps: 4096*4096*128 is the least int
        new Script("values").reads("fine 4096*4096*128/(0-1)", 0).say("roof 0 1 = 0", "fine 0 = MIN");
        new Script("values").reads("fine 4096*4096*128-1", 0).say("roof 0 1 = 0", "fine 0 = MAX");
    }

    private static void laws() {
        Script s = new Script("laws");
        s.say("roof 0 3 = 0", "roof 5 3 = 1", "roof 4 3 = 2", "weather 0 0 -1 = 0", "weather 0 1 9 = 0", "run 1 = 0");
        s.reads("melt 5", 0).say("told 0 7 = 5", "told 1 7 = 10", "told 2 7 = 2");
        s.reads("melt s-7", 1).say("told 0 7 = 20", "told 1 7 = 27", "told 2 7 = 10");
        s.reads("melt 0-5", 2).say("told 0 7 = 0", "told 1 7 = 0", "told 2 7 = 0");
        s.reads("melt 9999*9999", 3).say("told 0 7 = 27", "told 1 7 = 27", "told 2 7 = 13");
        s.reads("melt w*100+s*0+z", 4).say("told 0 7 = 3", "set 0 2 1 = 0", "told 0 7 = 27", "weather 1 0 -1 = 0", "told 0 7 = 3");
        s.say("told 0 9 = 0").reads("owner h=1 & w<0", 5).say("told 0 9 = 0", "told 1 9 = 1", "sunset 0 = 18", "told 0 9 = 0");
        s.say("run 1 = 0", "told 0 4 = 0", "told 1 4 = 0", "told 0 5 = 24", "told 1 5 = 27", "told 2 5 = 27");
        s.reads("owner 0-3", 6).say("told 0 9 = 1", "told 2 9 = 1", "run 1 = 0", "told 0 4 = 24", "told 0 5 = 0", "told 1 4 = 6",
            "told 1 5 = 21", "told 2 4 = 1", "told 2 5 = 26", "kilos 1 = 3");
        // in what is thought, laws hold too
        s.say("behind 1 1 0 = 12", "behind 2 1 0 = 2", "best 1 1 0 = 1", "best 1 1 1 = 26", "gains 24 5 = 0", "leastRoom 1 4 = 27");
    }
}
