import java.util.ArrayList;
import java.util.List;

/**
 * The document once more, written another way (a class a kind, texts kept as words and worked out from them,
 * refusals thrown), so that a slip in the one is not likely to be in the other.
 */
final class Model {
    static final int BAD = -1000000001, NO = -1000000002, FULL = -1000000003, NONE = -1000000005,
        NOTHING = -1000000011, KIND = -1000000012, INDEX = -1000000013, SIZE = -1000000014;

    static final class Refused extends RuntimeException {
        private static final long serialVersionUID = 1L;
        final int answer;

        Refused(int answer) {
            this.answer = answer;
        }
    }

    // ---- kinds

    static class PlainRoof {
        int size, heat = 0, room = 100, water = 0, snow = 0;

        int number() {
            return 0;
        }

        int melts(Town t) {
            long m = t.law(0) == null ? (long) size * Math.max(0, t.warmth(this))
                : ModelText.value(t.law(0), "w", t.warmth(this), "s", snow, "z", size);
            return (int) (m < 0 ? 0 : m > snow ? snow : m);
        }

        int bears() {
            return 50 * size;
        }

        int worth() {
            return size;
        }
    }

    static class SteepRoof extends PlainRoof {
        int number() {
            return 1;
        }

        int bears() {
            return 10 * size;
        }

        int worth() {
            return super.worth() + 3;
        }
    }

    static class FlatRoof extends PlainRoof {
        int number() {
            return 2;
        }

        int bears() {
            return 9999;
        }

        int worth() {
            return 20 - size;
        }
    }

    static final class LeaningRoof extends SteepRoof {
        int number() {
            return 3;
        }

        int worth() {
            return 2 * super.worth();
        }
    }

    static final class DammedRoof extends FlatRoof {
        int number() {
            return 4;
        }

        int melts(Town t) {
            return super.melts(t) / 2;
        }

        int worth() {
            return super.worth() - 2;
        }
    }

    static final class GlassRoof extends PlainRoof {
        int number() {
            return 5;
        }

        int melts(Town t) {
            return Math.min(snow, 2 * super.melts(t));
        }

        int worth() {
            return 30;
        }
    }

    static PlainRoof made(int kind) {
        switch (kind) {
            case 0: return new PlainRoof();
            case 1: return new SteepRoof();
            case 2: return new FlatRoof();
            case 3: return new LeaningRoof();
            case 4: return new DammedRoof();
            default: return new GlassRoof();
        }
    }

    static PlainRoof as(PlainRoof r, int kind) {
        PlainRoof n = made(kind);
        n.size = r.size;
        n.heat = r.heat;
        n.room = r.room;
        n.water = r.water;
        n.snow = r.snow;
        return n;
    }

    static boolean isOf(PlainRoof r, int kind) {
        return made(kind).getClass().isInstance(r);
    }

    // ---- all that an image keeps

    static final class Town {
        List<PlainRoof> roofs = new ArrayList<>();
        int[] air = new int[24], fall = new int[24];
        int sunset = 18, hour = 0, z = 1;
        int streetSnow, streetWater, nobodys, lost, stolen, used;
        List<List<String>> texts = new ArrayList<>();

        Town copied() {
            Town t = new Town();
            for (PlainRoof r : roofs) {
                t.roofs.add(as(r, r.number()));
            }
            t.air = air.clone();
            t.fall = fall.clone();
            t.sunset = sunset;
            t.hour = hour;
            t.z = z;
            t.streetSnow = streetSnow;
            t.streetWater = streetWater;
            t.nobodys = nobodys;
            t.lost = lost;
            t.stolen = stolen;
            t.used = used;
            t.texts.addAll(texts);
            return t;
        }

        List<String> law(int key) {
            for (int i = texts.size() - 1; i >= 0; i--) {
                if (ModelText.key(texts.get(i)) == key) {
                    return texts.get(i);
                }
            }
            return null;
        }

        int draw() {
            z = z * 1103515245 + 12345;
            return z >>> 8;
        }

        int warmth(PlainRoof r) {
            return air[hour % 24] + r.heat;
        }

        boolean owns(PlainRoof r) {
            List<String> owner = law(1);
            return owner == null ? hour % 24 >= sunset
                : ModelText.value(owner, "h", hour % 24, "w", warmth(r), "-", 0) != 0;
        }

        void wet(PlainRoof r, int more) {
            r.water += more;
            spill(r);
        }

        void spill(PlainRoof r) {
            if (r.water > r.room) {
                lost += r.water - r.room;
                r.water = r.room;
            }
        }

        void cover(PlainRoof r, int more) {
            r.snow += more;
            if (r.snow > 9999) {
                streetSnow += r.snow - 9999;
                r.snow = 9999;
            }
        }

        int hourPasses() {
            int a = air[hour % 24], f = fall[hour % 24], slides = 0;
            for (PlainRoof r : roofs) {
                if (a > 0) {
                    wet(r, f * r.size);
                }
                if (a < 0) {
                    cover(r, f * r.size);
                }
                if (a == 0) {
                    nobodys += f * r.size;
                }
            }
            streetWater += a > 0 ? 10 * f : 0;
            streetSnow += a < 0 ? 10 * f : 0;
            nobodys += a == 0 ? 10 * f : 0;
            for (int i = 0; i < roofs.size(); i++) {
                PlainRoof r = roofs.get(i);
                if (r.snow > r.bears()) {
                    slides++;
                    int all = r.snow;
                    r.snow = 0;
                    if (r instanceof LeaningRoof && i < roofs.size() - 1) {
                        cover(roofs.get(i + 1), all);
                    } else {
                        streetSnow += all;
                    }
                }
            }
            for (PlainRoof r : roofs) {
                int m = r.melts(this);
                boolean own = owns(r);
                r.snow -= m;
                if (own) {
                    wet(r, m);
                } else {
                    streetWater += m;
                }
            }
            for (int i = 0; i < 5 * a && streetSnow > 0; i++) {
                streetSnow--;
                streetWater++;
            }
            hour++;
            return slides;
        }

        Town behind(int n) {
            Town t = copied();
            for (int i = 0; i < n; i++) {
                t.hourPasses();
            }
            return t;
        }

        int waters() {
            return roofs.stream().mapToInt(r -> r.water).sum();
        }

        int snows() {
            return roofs.stream().mapToInt(r -> r.snow).sum();
        }
    }

    private Town town = new Town();
    private Town image = null;
    private final List<Integer> tape = new ArrayList<>();
    private final List<Integer> waiting = new ArrayList<>();
    private final Row[] sheets = new Row[4];
    private final Object[] slots = new Object[5];

    /** A row; null in it is NO NUMBER. */
    static final class Row {
        final boolean floats;
        final Integer[] places;

        Row(boolean floats, int n) {
            this.floats = floats;
            places = new Integer[n];
            java.util.Arrays.fill(places, 0);
        }

        Row copied() {
            Row r = new Row(floats, places.length);
            System.arraycopy(places, 0, r.places, 0, places.length);
            return r;
        }
    }

    private static void need(boolean so, int answer) {
        if (!so) {
            throw new Refused(answer);
        }
    }

    private static void within(int v, int least, int most) {
        need(least <= v && v <= most, BAD);
    }

    private PlainRoof roof(int number) {
        within(number, 0, town.roofs.size() - 1);
        return town.roofs.get(number);
    }

    private Row row(int sheet) {
        within(sheet, 0, 3);
        need(sheets[sheet] != null, NOTHING);
        return sheets[sheet];
    }

    private Object held(int slot) {
        need(slots[slot] != null, NOTHING);
        return slots[slot];
    }

    int answer(String call, int[] p) {
        try {
            return work(call, p);
        } catch (Refused r) {
            return r.answer;
        }
    }

    private int work(String call, int[] p) {
        switch (call) {
            case "roof": case "told": case "as": case "turns": case "set": case "sweep": case "use": case "deal":
            case "seed": return roofCall(call, p);
            case "weather": case "sky": case "sunset": case "run": case "kilos": return skyCall(call, p);
            case "behind": case "best": case "leastRoom": case "slide": case "gains": case "explained":
            case "fine": return thoughtCall(call, p);
            case "feed": case "trim": case "text": case "textTold": case "why": return textCall(call, p);
            case "sheet": case "mark": case "pour": case "reads": case "copy": return sheetCall(call, p);
            case "lay": case "ask": case "item": case "rest": return slotCall(call, p);
            default: return imageCall(call, p);
        }
    }

    private int roofCall(String call, int[] p) {
        switch (call) {
            case "roof": {
                within(p[0], 0, 5);
                within(p[1], 1, 9);
                need(town.roofs.size() < 8, FULL);
                PlainRoof r = made(p[0]);
                r.size = p[1];
                town.roofs.add(r);
                return town.roofs.size() - 1;
            }
            case "told": {
                PlainRoof r = roof(p[0]);
                within(p[1], 0, 10);
                int[] all = {r.number(), r.size, r.heat, r.room, r.water, r.snow, town.warmth(r), r.melts(town),
                    r.bears(), town.owns(r) ? 1 : 0, r.worth()};
                return all[p[1]];
            }
            case "as": {
                PlainRoof r = roof(p[0]);
                within(p[1], 0, 5);
                need(isOf(r, p[1]), KIND);
                return r.size;
            }
            case "turns": {
                PlainRoof r = roof(p[0]);
                within(p[1], 0, 5);
                town.roofs.set(p[0], as(r, p[1]));
                return r.number();
            }
            case "set": {
                PlainRoof r = roof(p[0]);
                within(p[1], 1, 3);
                within(p[2], p[1] == 1 ? 1 : 0, p[1] == 3 ? 999 : 9);
                int was = p[1] == 1 ? r.size : p[1] == 2 ? r.heat : r.room;
                if (p[1] == 1) {
                    r.size = p[2];
                } else if (p[1] == 2) {
                    r.heat = p[2];
                } else {
                    r.room = p[2];
                    town.spill(r);
                }
                return was;
            }
            case "sweep": {
                PlainRoof r = roof(p[0]);
                within(p[1], 1, 9999);
                int n = 0;
                while (n < p[1] && town.streetSnow > 0 && r.snow < 9999) {
                    n++;
                    town.streetSnow--;
                    r.snow++;
                    town.stolen++;
                }
                return n;
            }
            case "use": {
                PlainRoof r = roof(p[0]);
                within(p[1], 1, 999);
                int n = 0;
                while (n < p[1] && r.water > 0) {
                    n++;
                    r.water--;
                    town.used++;
                }
                return n;
            }
            case "deal": {
                within(p[0], 1, 8);
                int came = 0;
                while (came < p[0] && town.roofs.size() < 8) {
                    PlainRoof r = made(town.draw() % 6);
                    r.size = town.draw() % 9 + 1;
                    town.roofs.add(r);
                    came++;
                }
                return came;
            }
            default: {
                int was = town.z;
                town.z = p[0];
                return was;
            }
        }
    }

    private int skyCall(String call, int[] p) {
        switch (call) {
            case "weather": {
                within(p[0], 0, 23);
                within(p[1], 0, 1);
                within(p[2], p[1] == 0 ? -20 : 0, p[1] == 0 ? 20 : 9);
                int[] which = p[1] == 0 ? town.air : town.fall;
                int was = which[p[0]];
                which[p[0]] = p[2];
                return was;
            }
            case "sky": {
                int all = 0;
                for (int h = 0; h < 24; h++) {
                    town.air[h] = town.draw() % 21 - 10;
                    town.fall[h] = town.draw() % 10;
                    all += town.fall[h];
                }
                return all;
            }
            case "sunset": {
                within(p[0], 0, 24);
                int was = town.sunset;
                town.sunset = p[0];
                return was;
            }
            case "run": {
                within(p[0], 1, 200);
                int slides = 0;
                for (int i = 0; i < p[0] && town.hour < 9999; i++) {
                    slides += town.hourPasses();
                }
                return slides;
            }
            default: {
                within(p[0], 0, 6);
                int[] all = {town.streetSnow, town.streetWater, town.nobodys, town.lost, town.stolen, town.used,
                    town.waters() + town.snows() + town.streetSnow + town.streetWater + town.nobodys + town.lost + town.used};
                return all[p[0]];
            }
        }
    }

    private int thoughtCall(String call, int[] p) {
        switch (call) {
            case "behind": {
                roof(p[0]);
                within(p[1], 0, 200);
                within(p[2], 0, 3);
                Town t = town.behind(p[1]);
                PlainRoof r = t.roofs.get(p[0]);
                return new int[] {r.water, r.snow, t.streetWater, t.lost}[p[2]];
            }
            case "best": {
                roof(p[0]);
                within(p[1], 1, 72);
                within(p[2], 0, 1);
                int best = -1, most = Integer.MIN_VALUE;
                for (int heat = 9; heat >= 0; heat--) {
                    Town t = town.copied();
                    t.roofs.get(p[0]).heat = heat;
                    int w = t.behind(p[1]).roofs.get(p[0]).water - p[1] * heat;
                    if (w >= most) {
                        most = w;
                        best = heat;
                    }
                }
                return p[2] == 0 ? best : most;
            }
            case "leastRoom": {
                roof(p[0]);
                within(p[1], 0, 200);
                Town t = town.copied();
                t.roofs.get(p[0]).room = 99999;
                int most = t.roofs.get(p[0]).water;
                for (int i = 0; i < p[1]; i++) {
                    t.hourPasses();
                    most = Math.max(most, t.roofs.get(p[0]).water);
                }
                return most;
            }
            case "slide": {
                Town t = town.copied();
                for (int i = 1; i <= 200; i++) {
                    if (t.hourPasses() != 0) {
                        return i;
                    }
                }
                return NONE;
            }
            case "gains": {
                within(p[0], 0, 24);
                within(p[1], 1, 72);
                need(!town.roofs.isEmpty(), NONE);
                Town asIs = town.behind(p[1]);
                Town other = town.copied();
                other.sunset = p[0];
                other = other.behind(p[1]);
                int best = 0;
                for (int i = 1; i < asIs.roofs.size(); i++) {
                    if (other.roofs.get(i).water - asIs.roofs.get(i).water
                        > other.roofs.get(best).water - asIs.roofs.get(best).water) {
                        best = i;
                    }
                }
                return best;
            }
            case "explained": {
                within(p[0], 0, 3);
                within(p[1], 0, 1);
                Row r = row(p[0]);
                int best = -1;
                long least = Long.MAX_VALUE;
                for (int v = 0; v <= 24; v++) {
                    long sum = 0;
                    Town t = town.copied();
                    t.sunset = v;
                    for (Integer place : r.places) {
                        sum += place == null ? 0 : Math.abs(place - t.streetWater);
                        t.hourPasses();
                    }
                    if (sum < least) {
                        least = sum;
                        best = v;
                    }
                }
                return p[1] == 0 ? best : (int) least;
            }
            default: {
                PlainRoof r = roof(p[0]);
                return town.law(2) == null ? town.stolen
                    : ModelText.value(town.law(2), "w", r.water, "s", town.stolen, "-", 0);
            }
        }
    }

    private int textCall(String call, int[] p) {
        switch (call) {
            case "feed": {
                need(tape.size() + 12 <= 96, FULL);
                for (int v : p) {
                    for (byte b : java.nio.ByteBuffer.allocate(4).putInt(v).array()) {
                        tape.add(b & 0xff);
                    }
                }
                return tape.size();
            }
            case "trim": {
                within(p[0], 0, tape.size());
                while (tape.size() > p[0]) {
                    tape.remove(tape.size() - 1);
                }
                return p[0];
            }
            case "text": {
                List<Integer> bytes = new ArrayList<>(tape);
                tape.clear();
                List<String> words = new ArrayList<>();
                int fault = ModelText.fault(bytes, words);
                need(fault < 0, -100 - fault);
                need(town.texts.size() < 14, FULL);
                town.texts.add(words);
                return town.texts.size() - 1;
            }
            case "textTold": {
                within(p[0], 0, town.texts.size() - 1);
                within(p[1], 0, 1);
                List<String> t = town.texts.get(p[0]);
                return p[1] == 0 ? ModelText.key(t) : ModelText.operands(t);
            }
            default: {
                within(p[0], 0, 2);
                need(town.law(p[0]) != null, NONE);
                for (int i = town.texts.size() - 1; i > 0; i--) {
                    if (ModelText.key(town.texts.get(i)) == p[0]) {
                        return i;
                    }
                }
                return 0;
            }
        }
    }

    private int sheetCall(String call, int[] p) {
        switch (call) {
            case "sheet": {
                within(p[0], 0, 3);
                within(p[1], -1, 1);
                if (p[1] == -1) {
                    sheets[p[0]] = null;
                    return 0;
                }
                need(p[2] <= 24, BAD);
                need(p[2] >= 0, SIZE);
                sheets[p[0]] = new Row(p[1] == 1, p[2]);
                return p[2];
            }
            case "mark": {
                Row r = row(p[0]);
                need(p[1] >= 0 && p[1] < r.places.length, INDEX);
                if (r.floats) {
                    need(p[2] == NONE || Math.abs((long) p[2]) <= 99999, BAD);
                    r.places[p[1]] = p[2] == NONE ? null : p[2];
                } else {
                    need(p[2] != NONE, KIND);
                    r.places[p[1]] = p[2] << 16 >> 16;
                }
                return 1;
            }
            case "pour": {
                Row r = row(p[0]);
                int[] was = town.fall.clone();
                for (int i = 0; i < r.places.length; i++) {
                    if (r.places[i] != null) {
                        int v = r.places[i];
                        town.fall[i] = v < 0 ? 0 : v > 9 ? 9 : v;
                    }
                }
                int n = 0;
                for (int i = 0; i < 24; i++) {
                    n += was[i] == town.fall[i] ? 0 : 1;
                }
                return n;
            }
            case "reads": {
                Row r = row(p[0]);
                for (int i = 0; i < r.places.length; i++) {
                    if (r.places[i] == null) {
                        continue;
                    }
                    if (i >= town.roofs.size() || town.roofs.get(i).water != r.places[i]) {
                        return i;
                    }
                }
                return NONE;
            }
            default: {
                within(p[0], 0, 3);
                within(p[2], 0, 3);
                Row f = row(p[0]), t = row(p[2]);
                need(f.floats == t.floats, KIND);
                try {
                    System.arraycopy(f.places, p[1], t.places, p[3], p[4]);
                } catch (IndexOutOfBoundsException e) {
                    throw new Refused(INDEX);
                }
                return p[4];
            }
        }
    }

    private int slotCall(String call, int[] p) {
        within(p[0], 0, 4);
        switch (call) {
            case "lay": {
                within(p[1], 0, 3);
                Object now = p[1] == 3 ? Integer.valueOf(p[2]) : null;
                if (p[1] == 1) {
                    now = as(roof(p[2]), roof(p[2]).number());
                }
                if (p[1] == 2) {
                    now = row(p[2]).copied();
                }
                Object was = slots[p[0]];
                slots[p[0]] = now;
                return was == null ? 0 : was instanceof PlainRoof ? 1 : was instanceof Row ? 2 : 3;
            }
            case "ask": {
                within(p[1], 0, 5);
                Object h = held(p[0]);
                need(made(p[1]).getClass().isInstance(h), KIND);
                return ((PlainRoof) h).worth();
            }
            case "item": {
                Object h = held(p[0]);
                need(h instanceof Row, KIND);
                Integer[] places = ((Row) h).places;
                need(p[1] >= 0 && p[1] < places.length, INDEX);
                need(places[p[1]] != null, KIND);
                return places[p[1]];
            }
            default: {
                Object h = held(p[0]);
                need(h instanceof Integer, KIND);
                need(p[1] != 0, NO);
                return (Integer) h % p[1];
            }
        }
    }

    private int imageCall(String call, int[] p) {
        switch (call) {
            case "tell":
                need(waiting.size() < 60, FULL);
                waiting.add(p[0]);
                return waiting.size();
            case "check": {
                List<Integer> given = new ArrayList<>(waiting);
                waiting.clear();
                within(p[0], 1, 30);
                need(image != null, NO);
                List<Integer> want = new ArrayList<>();
                Town t = image.copied();
                for (int i = 0; i < p[0] && t.hour < 9999; i++) {
                    t.hourPasses();
                    want.add(t.waters());
                    want.add(t.streetSnow);
                }
                int i = 0;
                while (i < want.size() && i < given.size() && want.get(i).intValue() == given.get(i).intValue()) {
                    i++;
                }
                return i == want.size() && i == given.size() ? 0 : 1 + i;
            }
            case "keep":
                image = town.copied();
                return town.roofs.size();
            case "back":
                need(image != null, NO);
                town = image.copied();
                return town.roofs.size();
            default: {
                within(p[0], 0, 8);
                int[] all = {town.roofs.size(), town.hour, town.sunset, town.waters(), town.snows(), town.texts.size(),
                    waiting.size(), tape.size(), town.z};
                return all[p[0]];
            }
        }
    }

    /** What the driver of a random run may look at, to tell true hours. */
    List<Integer> hoursTold(int n) {
        List<Integer> want = new ArrayList<>();
        if (image != null) {
            Town t = image.copied();
            for (int i = 0; i < n && t.hour < 9999; i++) {
                t.hourPasses();
                want.add(t.waters());
                want.add(t.streetSnow);
            }
        }
        return want;
    }
}
