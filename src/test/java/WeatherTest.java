/** Promises 11 to 15. */
public final class WeatherTest {
    public static void main(String[] args) {
        weather();
        sky();
        sunset();
        fallOfAnHour();
        slidesOfAnHour();
        meltOfAnHour();
        bounds();
        Due.end();
    }

    private static void weather() {
        Script s = new Script("promise 11");
        s.say("weather 0 0 -20 = 0", "weather 0 0 20 = -20", "weather 0 0 21 = BAD", "weather 0 0 -21 = BAD",
            "weather 0 0 1 = 20", "weather 23 1 9 = 0", "weather 23 1 0 = 9", "weather 23 1 10 = BAD",
            "weather 23 1 -1 = BAD", "weather 24 0 0 = BAD", "weather -1 0 0 = BAD", "weather 0 2 0 = BAD",
            "weather 0 -1 0 = BAD", "weather MAX MIN MAX = BAD", "weather 0 0 0 = 1", "weather 23 1 0 = 0");
    }

    private static void sky() {
        Script s = new Script("promise 12");
        int z = 5;
        int all = 0;
        int[] air = new int[24];
        int[] fall = new int[24];
        for (int h = 0; h < 24; h++) {
            z = z * 1103515245 + 12345;
            air[h] = (z >>> 8) % 21 - 10;
            z = z * 1103515245 + 12345;
            fall[h] = (z >>> 8) % 10;
            all += fall[h];
        }
        s.say("seed 5 = 1", "sky = " + all, "count 8 = " + z);
        for (int h = 0; h < 24; h++) {
            s.say("weather " + h + " 0 0 = " + air[h], "weather " + h + " 1 0 = " + fall[h]);
        }
    }

    private static void sunset() {
        Script s = new Script("promise 13");
        s.say("sunset 0 = 18", "sunset 24 = 0", "sunset 25 = BAD", "sunset -1 = BAD", "count 2 = 24", "sunset 24 = 24");
    }

    private static void fallOfAnHour() {
        Script s = new Script("promises 14 and 15, fall");
        s.say("roof 0 3 = 0", "roof 1 2 = 1", "set 1 3 7 = 100");
        s.say("weather 0 0 1 = 0", "weather 0 1 4 = 0", "weather 1 0 0 = 0", "weather 1 1 5 = 0", "weather 2 0 -1 = 0",
            "weather 2 1 6 = 0");
        s.say("run 1 = 0", "count 1 = 1", "told 0 4 = 12", "told 1 4 = 7", "kilos 3 = 1", "kilos 1 = 40", "kilos 6 = 60");
        s.say("run 1 = 0", "kilos 2 = 75", "kilos 0 = 0", "kilos 6 = 135");
        s.say("run 1 = 0", "told 0 5 = 18", "told 1 5 = 12", "kilos 0 = 60", "kilos 6 = 225", "count 3 = 19", "count 4 = 30");
        s.say("kilos -1 = BAD", "kilos 7 = BAD", "kilos 5 = 0", "kilos 4 = 0");
    }

    private static void slidesOfAnHour() {
        // a LEANING roof slides onto the next one, which slides in the same hour then
        Script s = new Script("promise 14, slides");
        s.say("roof 3 9 = 0", "roof 1 1 = 1", "roof 3 9 = 2", "weather 0 0 -1 = 0", "weather 0 1 9 = 0", "weather 1 0 -1 = 0",
            "weather 1 1 1 = 0", "weather 2 0 -1 = 0");
        s.say("run 1 = 0", "told 0 5 = 81", "told 1 5 = 9", "told 2 5 = 81", "kilos 0 = 90");
        s.say("run 1 = 0", "told 0 5 = 90", "told 1 5 = 10", "told 2 5 = 90", "kilos 0 = 100");
        s.say("sweep 0 1 = 1", "slide = 1", "run 1 = 2", "told 0 5 = 0", "told 1 5 = 0", "told 2 5 = 90", "kilos 0 = 200");
        s.say("sweep 2 1 = 1", "run 1 = 1", "told 2 5 = 0", "kilos 0 = 290", "kilos 6 = 290");
        // ahead of the one that slides nothing changes, and onto a FLAT one all may lie
        Script t = new Script("promise 14, onto the next");
        t.say("roof 4 5 = 0", "roof 3 1 = 1", "roof 2 5 = 2", "weather 0 0 -1 = 0", "weather 0 1 9 = 0", "run 1 = 0",
            "sweep 1 1 = 1", "run 1 = 0", "sweep 1 1 = 1", "run 1 = 1", "told 0 5 = 45", "told 1 5 = 0", "told 2 5 = 56");
        // what the next one cannot hold comes to the street
        Script u = new Script("promise 14, above 9999");
        u.say("roof 3 9 = 0", "roof 2 9 = 1");
        for (int h = 0; h < 24; h++) {
            u.say("weather " + h + " 0 -1 = 0", "weather " + h + " 1 9 = 0");
        }
        u.say("run 110 = 55", "told 0 5 = 0", "told 1 5 = 9999", "kilos 0 = 17721", "kilos 6 = 27720", "run 1 = 0",
            "told 0 5 = 81", "told 1 5 = 9999", "kilos 0 = 17892", "run 1 = 1", "told 0 5 = 0", "kilos 0 = 18225");
    }

    private static void meltOfAnHour() {
        Script s = new Script("promise 14, melt");
        s.say("roof 0 2 = 0", "roof 5 2 = 1", "roof 4 3 = 2", "weather 0 0 -1 = 0", "weather 0 1 9 = 0", "run 1 = 0",
            "told 0 5 = 18", "told 1 5 = 18", "told 2 5 = 27", "kilos 0 = 90", "weather 1 0 3 = 0", "weather 2 0 4 = 0",
            "weather 3 0 -5 = 0", "sunset 2 = 18");
        s.say("run 1 = 0", "told 0 5 = 12", "told 1 5 = 6", "told 2 5 = 23", "count 3 = 0", "kilos 0 = 75", "kilos 1 = 37");
        s.say("set 1 3 5 = 100", "run 1 = 0", "told 0 5 = 4", "told 0 4 = 8", "told 1 5 = 0", "told 1 4 = 5", "kilos 3 = 1",
            "told 2 5 = 17", "told 2 4 = 6", "kilos 0 = 55", "kilos 1 = 57");
        // heat melts in cold air, but of the street's snow nothing
        s.say("set 0 2 9 = 0", "told 0 6 = 4", "run 1 = 0", "told 0 5 = 0", "told 0 4 = 12", "kilos 0 = 55", "kilos 1 = 57",
            "kilos 6 = 153");
        // no more than lies on the street
        s.say("weather 4 0 20 = 0", "run 1 = 0", "kilos 0 = 0", "kilos 1 = 112");
    }

    private static void bounds() {
        Script s = new Script("promise 14, bounds");
        s.say("run 0 = BAD", "run 201 = BAD", "run -1 = BAD", "count 1 = 0", "weather 15 1 1 = 0", "roof 0 1 = 0");
        for (int i = 1; i < 50; i++) {
            s.say("run 200 = 0", "count 1 = " + 200 * i);
        }
        s.say("keep = 1", "behind 0 200 2 = 0", "run 198 = 0", "count 1 = 9998", "run 200 = 0", "count 1 = 9999", "run 1 = 0",
            "count 1 = 9999", "kilos 2 = 4576", "run 201 = BAD", "weather 15 0 1 = 0", "behind 0 1 0 = 1", "behind 0 2 2 = 10",
            "told 0 4 = 0", "back = 1", "count 1 = 9800", "run 200 = 0", "count 1 = 9999", "kilos 2 = 4576");
    }
}
