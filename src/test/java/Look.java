import java.util.ArrayList;
import java.util.List;

/** All that can be seen, by calls that use an object up. */
final class Look {
    private final Calls x;
    private final List<Integer> seen = new ArrayList<>();

    private Look(Calls x) {
        this.x = x;
    }

    /** The answers, one a call. */
    static List<Integer> at(Calls x) {
        Look look = new Look(x);
        look.world();
        for (int slot = 0; slot < 5; slot++) {
            look.slot(slot);
        }
        for (int sheet = 0; sheet < 4; sheet++) {
            look.sheet(sheet);
        }
        int pairs = (look.see("count", 6) + 1) / 2;
        look.see("check", Math.max(1, Math.min(30, pairs)));
        look.see("text");
        look.laws();
        look.weather();
        if (look.see("back") != RoofSnow.NO) {
            look.world();
            look.weather();
        }
        return look.seen;
    }

    private int see(String name, int... arguments) {
        int answer = x.call(name, arguments);
        seen.add(answer);
        return answer;
    }

    private void world() {
        for (int what = 1; what <= 8; what++) {
            see("count", what);
        }
        for (int what = 0; what <= 6; what++) {
            see("kilos", what);
        }
        int roofs = see("count", 0);
        for (int roof = 0; roof < roofs; roof++) {
            for (int what = 0; what <= 5; what++) {
                see("told", roof, what);
            }
        }
        laws();
    }

    private void laws() {
        int texts = see("count", 5);
        for (int text = 0; text < texts; text++) {
            see("textTold", text, 0);
            see("textTold", text, 1);
        }
        for (int key = 0; key < 3; key++) {
            see("why", key);
        }
        see("fine", 0);
        see("told", 0, 7);
        see("told", 0, 9);
    }

    private void weather() {
        for (int hour = 0; hour < 24; hour++) {
            see("weather", hour, 0, 0);
            see("weather", hour, 1, 0);
        }
    }

    private void slot(int slot) {
        int number = see("rest", slot, Integer.MAX_VALUE);
        if (number == RoofSnow.KIND && see("ask", slot, 0) == RoofSnow.KIND) {
            items(slot);
        }
    }

    /** A sheet is seen through a slot; its sort by what a mark that is no number does. */
    private void sheet(int sheet) {
        if (see("lay", 0, 2, sheet) != RoofSnow.NOTHING) {
            items(0);
            see("mark", sheet, 0, RoofSnow.NONE);
        }
    }

    private void items(int slot) {
        for (int place = 0; place <= 24; place++) {
            if (see("item", slot, place) == RoofSnow.INDEX) {
                break;
            }
        }
    }
}
