/** Weather that many runs begin with. */
final class Skies {
    private Skies() {
    }

    /** 90 kilos of snow on the street, in THE HOUR 1; no other hour has weather. */
    static Script snowyStreet(Script s) {
        return s.say("weather 0 0 -1 = 0", "weather 0 1 9 = 0", "run 1 = 0", "kilos 0 = 90");
    }

    /** All hours get the same air and fall. */
    static Script all(Script s, int air, int fall) {
        for (int h = 0; h < 24; h++) {
            s.call("weather", h, 0, air);
            s.call("weather", h, 1, fall);
        }
        return s;
    }

    /** 18000 kilos of snow on the street a time, 200 hours each; then no fall any more, and AIR -1 all day. */
    static Script deepStreet(Script s, int times) {
        all(s, -1, 9);
        for (int i = 1; i <= times; i++) {
            s.say("run 200 = 0", "kilos 0 = " + 18000 * i);
        }
        return s.say("sheet 3 0 24 = 24", "pour 3 = 24", "sheet 3 -1 0 = 0");
    }

    /** THE HOUR becomes so much from 0, while nothing falls. */
    static Script wait(Script s, int hours) {
        for (int left = hours; left > 0; left -= 200) {
            s.call("run", Math.min(200, left));
        }
        return s.say("count 1 = " + hours);
    }
}
