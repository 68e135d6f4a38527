/**
 * Roofs that take rain, bear snow, melt it or let it slide, hour by hour, above one street.
 * The document's promises stand with the public methods, in its order.
 */
public final class RoofSnow {
    public static final int BAD = -1000000001, NO = -1000000002, FULL = -1000000003, NONE = -1000000005,
        NOTHING = -1000000011, KIND = -1000000012, INDEX = -1000000013, SIZE = -1000000014;

    private static final int KINDS = 6;
    private static final int STEEP = 1, FLAT = 2, LEANING = 3, DAMMED = 4, GLASS = 5;
    /** By kind, the kind that it stands under. */
    private static final int[] ABOVE = {-1, 0, 0, STEEP, FLAT, 0};

    private static final int MOST_ROOFS = 8, MOST_SIZE = 9, MOST_HEAT = 9, MOST_ROOM = 999, MOST_SNOW = 9999;
    private static final int WIDE_ROOM = 99999;
    private static final int HOURS = 24, MOST_AIR = 20, MOST_FALL = 9, LAST_SUNSET = 24, LAST_HOUR = 9999;
    private static final int FAR = 200, NEAR = 72;

    private static final int KEYS = 3, MELT = 0, OWNER = 1, FINE = 2;
    private static final int MOST_TEXTS = 14, MOST_BYTES = 96, BYTES_FED = 12, FAULTS = -100;

    private static final int SHEETS = 4, MOST_PLACES = 24, MISSING = -1, SHORTS = 0, FLOATS = 1;
    private static final int MOST_FLOAT = 99999;
    private static final int SLOTS = 5, EMPTY = 0, A_ROOF = 1, A_SHEET = 2, A_NUMBER = 3;
    private static final int MOST_WAITING = 60, MOST_CHECKED = 30;

    private final Laws laws = new Laws();
    private final World now = new World(laws);
    private final World image = new World(laws);
    /** What is only thought is worked out here, so that nothing of now changes. */
    private final World thought = new World(laws);
    private boolean imageKept = false;
    private final int[] tape = new int[MOST_BYTES];
    private int tapeLength = 0;
    private final Reader reader = new Reader(tape);
    private final Sheet[] sheets = new Sheet[SHEETS];
    private final Slot[] slots = new Slot[SLOTS];
    private final int[] waiting = new int[MOST_WAITING];
    private int waits = 0;
    private final int[] waters = new int[MOST_ROOFS];

    // ---- promise 1

    public RoofSnow() {
        for (int i = 0; i < SHEETS; i++) {
            sheets[i] = new Sheet();
        }
        for (int i = 0; i < SLOTS; i++) {
            slots[i] = new Slot();
        }
    }

    // ---- roofs: promises 2 to 10

    public int roof(int kind, int size) {
        if (!isKind(kind) || !isWithin(size, 1, MOST_SIZE)) {
            return BAD;
        }
        if (now.many >= MOST_ROOFS) {
            return FULL;
        }
        return now.addRoof(kind, size);
    }

    public int told(int roof, int what) {
        if (!isRoof(roof)) {
            return BAD;
        }
        Roof r = now.roofs[roof];
        switch (what) {
            case 0: return r.kind;
            case 1: return r.size;
            case 2: return r.heat;
            case 3: return r.room;
            case 4: return r.water;
            case 5: return r.snow;
            case 6: return now.warmth(r);
            case 7: return now.melts(r);
            case 8: return r.bears();
            case 9: return now.owns(r) ? 1 : 0;
            case 10: return r.worth();
            default: return BAD;
        }
    }

    public int as(int roof, int kind) {
        if (!isRoof(roof) || !isKind(kind)) {
            return BAD;
        }
        Roof r = now.roofs[roof];
        return r.isOf(kind) ? r.size : KIND;
    }

    public int turns(int roof, int kind) {
        if (!isRoof(roof) || !isKind(kind)) {
            return BAD;
        }
        Roof r = now.roofs[roof];
        int was = r.kind;
        r.kind = kind;
        return was;
    }

    public int set(int roof, int what, int v) {
        if (!isRoof(roof)) {
            return BAD;
        }
        switch (what) {
            case 1: return isWithin(v, 1, MOST_SIZE) ? changeSize(now.roofs[roof], v) : BAD;
            case 2: return isWithin(v, 0, MOST_HEAT) ? changeHeat(now.roofs[roof], v) : BAD;
            case 3: return isWithin(v, 0, MOST_ROOM) ? changeRoom(now.roofs[roof], v) : BAD;
            default: return BAD;
        }
    }

    public int sweep(int roof, int n) {
        if (!isRoof(roof) || !isWithin(n, 1, MOST_SNOW)) {
            return BAD;
        }
        Roof r = now.roofs[roof];
        int swept = Math.min(Math.min(n, now.streetSnow), MOST_SNOW - r.snow);
        now.streetSnow -= swept;
        r.snow += swept;
        now.stolen += swept;
        return swept;
    }

    public int use(int roof, int n) {
        if (!isRoof(roof) || !isWithin(n, 1, MOST_ROOM)) {
            return BAD;
        }
        Roof r = now.roofs[roof];
        int taken = Math.min(n, r.water);
        r.water -= taken;
        now.used += taken;
        return taken;
    }

    public int deal(int n) {
        if (!isWithin(n, 1, MOST_ROOFS)) {
            return BAD;
        }
        int come = Math.min(n, MOST_ROOFS - now.many);
        for (int i = 0; i < come; i++) {
            int kind = now.draw() % KINDS;
            int size = 1 + now.draw() % MOST_SIZE;
            now.addRoof(kind, size);
        }
        return come;
    }

    public int seed(int v) {
        int was = now.z;
        now.z = v;
        return was;
    }

    // ---- weather: promises 11 to 15

    public int weather(int hour, int what, int v) {
        if (!isWithin(hour, 0, HOURS - 1)) {
            return BAD;
        }
        switch (what) {
            case 0: return isWithin(v, -MOST_AIR, MOST_AIR) ? change(now.air, hour, v) : BAD;
            case 1: return isWithin(v, 0, MOST_FALL) ? change(now.fall, hour, v) : BAD;
            default: return BAD;
        }
    }

    public int sky() {
        int together = 0;
        for (int hour = 0; hour < HOURS; hour++) {
            now.air[hour] = now.draw() % 21 - 10;
            now.fall[hour] = now.draw() % 10;
            together += now.fall[hour];
        }
        return together;
    }

    public int sunset(int v) {
        if (!isWithin(v, 0, LAST_SUNSET)) {
            return BAD;
        }
        int was = now.dusk;
        now.dusk = v;
        return was;
    }

    public int run(int n) {
        if (!isWithin(n, 1, FAR)) {
            return BAD;
        }
        return now.passHours(Math.min(n, now.hoursLeft()));
    }

    public int kilos(int what) {
        switch (what) {
            case 0: return now.streetSnow;
            case 1: return now.streetWater;
            case 2: return now.nobodys;
            case 3: return now.lost;
            case 4: return now.stolen;
            case 5: return now.used;
            case 6: return now.allKilos();
            default: return BAD;
        }
    }

    // ---- what will be: promises 16 to 22

    public int behind(int roof, int n, int what) {
        if (!isRoof(roof) || !isWithin(n, 0, FAR) || !isWithin(what, 0, 3)) {
            return BAD;
        }
        thought.become(now);
        thought.passHours(n);
        switch (what) {
            case 0: return thought.roofs[roof].water;
            case 1: return thought.roofs[roof].snow;
            case 2: return thought.streetWater;
            default: return thought.lost;
        }
    }

    public int best(int roof, int n, int what) {
        if (!isRoof(roof) || !isWithin(n, 1, NEAR) || !isWithin(what, 0, 1)) {
            return BAD;
        }
        int bestHeat = 0;
        int most = yieldOfHeat(roof, n, 0);
        for (int heat = 1; heat <= MOST_HEAT; heat++) {
            int gained = yieldOfHeat(roof, n, heat);
            if (gained > most) {
                most = gained;
                bestHeat = heat;
            }
        }
        return what == 0 ? bestHeat : most;
    }

    public int leastRoom(int roof, int n) {
        if (!isRoof(roof) || !isWithin(n, 0, FAR)) {
            return BAD;
        }
        thought.become(now);
        Roof r = thought.roofs[roof];
        r.room = WIDE_ROOM;
        int most = r.water;
        for (int i = 0; i < n; i++) {
            thought.passHour();
            most = Math.max(most, r.water);
        }
        return most;
    }

    public int slide() {
        thought.become(now);
        for (int hours = 1; hours <= FAR; hours++) {
            if (thought.passHour() > 0) {
                return hours;
            }
        }
        return NONE;
    }

    public int gains(int v, int n) {
        if (!isWithin(v, 0, LAST_SUNSET) || !isWithin(n, 1, NEAR)) {
            return BAD;
        }
        thinkOfWaters(n);
        thought.become(now);
        thought.dusk = v;
        thought.passHours(n);
        int winner = NONE;
        int most = 0;
        for (int i = 0; i < thought.many; i++) {
            int more = thought.roofs[i].water - waters[i];
            if (winner == NONE || more > most) {
                winner = i;
                most = more;
            }
        }
        return winner;
    }

    public int explained(int sheet, int what) {
        if (!isSheet(sheet) || !isWithin(what, 0, 1)) {
            return BAD;
        }
        if (sheets[sheet].isMissing()) {
            return NOTHING;
        }
        int bestDusk = 0;
        int least = misfit(sheets[sheet], 0);
        for (int dusk = 1; dusk <= LAST_SUNSET; dusk++) {
            int differences = misfit(sheets[sheet], dusk);
            if (differences < least) {
                least = differences;
                bestDusk = dusk;
            }
        }
        return what == 0 ? bestDusk : least;
    }

    public int fine(int roof) {
        return isRoof(roof) ? now.fineFor(now.roofs[roof]) : BAD;
    }

    // ---- texts: promises 23 to 27

    public int feed(int a, int b, int c) {
        if (tapeLength > MOST_BYTES - BYTES_FED) {
            return FULL;
        }
        putBytes(a, tapeLength);
        putBytes(b, tapeLength + 4);
        putBytes(c, tapeLength + 8);
        tapeLength += BYTES_FED;
        return tapeLength;
    }

    public int trim(int n) {
        if (!isWithin(n, 0, tapeLength)) {
            return BAD;
        }
        tapeLength = n;
        return n;
    }

    public int text() {
        boolean isText = reader.readText(tapeLength);
        tapeLength = 0;
        if (!isText) {
            return FAULTS - reader.start;
        }
        if (now.texts >= MOST_TEXTS) {
            return FULL;
        }
        int number = now.texts;
        laws.put(number, reader);
        now.texts++;
        now.counting[reader.key] = number;
        return number;
    }

    public int textTold(int text, int what) {
        if (!isWithin(text, 0, now.texts - 1)) {
            return BAD;
        }
        switch (what) {
            case 0: return laws.keys[text];
            case 1: return laws.operands[text];
            default: return BAD;
        }
    }

    public int why(int key) {
        return isWithin(key, 0, KEYS - 1) ? now.counting[key] : BAD;
    }

    // ---- sheets, slots: promises 28 to 36

    public int sheet(int sheet, int sort, int n) {
        if (!isSheet(sheet) || !isWithin(sort, MISSING, FLOATS)) {
            return BAD;
        }
        if (sort == MISSING) {
            sheets[sheet].lose();
            return 0;
        }
        if (n > MOST_PLACES) {
            return BAD;
        }
        if (n < 0) {
            return SIZE;
        }
        sheets[sheet].begin(sort, n);
        return n;
    }

    public int mark(int sheet, int place, int v) {
        if (!isSheet(sheet)) {
            return BAD;
        }
        Sheet s = sheets[sheet];
        if (s.isMissing()) {
            return NOTHING;
        }
        if (!s.hasPlace(place)) {
            return INDEX;
        }
        if (s.sort == SHORTS) {
            return v == NONE ? KIND : s.write(place, (short) v);
        }
        return v == NONE || isWithin(v, -MOST_FLOAT, MOST_FLOAT) ? s.write(place, v) : BAD;
    }

    public int pour(int sheet) {
        if (!isSheet(sheet)) {
            return BAD;
        }
        Sheet s = sheets[sheet];
        if (s.isMissing()) {
            return NOTHING;
        }
        int otherwise = 0;
        for (int hour = 0; hour < s.places && hour < HOURS; hour++) {
            if (s.isNumber(hour)) {
                int falls = Math.max(0, Math.min(MOST_FALL, s.row[hour]));
                if (change(now.fall, hour, falls) != falls) {
                    otherwise++;
                }
            }
        }
        return otherwise;
    }

    public int reads(int sheet) {
        if (!isSheet(sheet)) {
            return BAD;
        }
        Sheet s = sheets[sheet];
        if (s.isMissing()) {
            return NOTHING;
        }
        for (int place = 0; place < s.places; place++) {
            if (s.isNumber(place) && !(isRoof(place) && s.row[place] == now.roofs[place].water)) {
                return place;
            }
        }
        return NONE;
    }

    public int copy(int from, int place, int to, int at, int many) {
        if (!isSheet(from) || !isSheet(to)) {
            return BAD;
        }
        Sheet source = sheets[from];
        Sheet target = sheets[to];
        if (source.isMissing() || target.isMissing()) {
            return NOTHING;
        }
        if (source.sort != target.sort) {
            return KIND;
        }
        if (!source.hasPlaces(place, many) || !target.hasPlaces(at, many)) {
            return INDEX;
        }
        System.arraycopy(source.row, place, target.row, at, many);
        return many;
    }

    public int lay(int slot, int thing, int k) {
        if (!isSlot(slot) || !isWithin(thing, EMPTY, A_NUMBER)) {
            return BAD;
        }
        if (thing == A_ROOF && !isRoof(k) || thing == A_SHEET && !isSheet(k)) {
            return BAD;
        }
        if (thing == A_SHEET && sheets[k].isMissing()) {
            return NOTHING;
        }
        Slot s = slots[slot];
        int held = s.thing;
        s.thing = thing;
        if (thing == A_ROOF) {
            s.roofHeld.become(now.roofs[k]);
        } else if (thing == A_SHEET) {
            s.sheetHeld.become(sheets[k]);
        } else if (thing == A_NUMBER) {
            s.number = k;
        }
        return held;
    }

    public int ask(int slot, int kind) {
        if (!isSlot(slot) || !isKind(kind)) {
            return BAD;
        }
        int finding = slots[slot].findingFor(A_ROOF);
        if (finding != 0) {
            return finding;
        }
        Roof r = slots[slot].roofHeld;
        return r.isOf(kind) ? r.worth() : KIND;
    }

    public int item(int slot, int place) {
        if (!isSlot(slot)) {
            return BAD;
        }
        int finding = slots[slot].findingFor(A_SHEET);
        if (finding != 0) {
            return finding;
        }
        Sheet s = slots[slot].sheetHeld;
        if (!s.hasPlace(place)) {
            return INDEX;
        }
        return s.isNumber(place) ? s.row[place] : KIND;
    }

    public int rest(int slot, int n) {
        if (!isSlot(slot)) {
            return BAD;
        }
        int finding = slots[slot].findingFor(A_NUMBER);
        if (finding != 0) {
            return finding;
        }
        return n == 0 ? NO : slots[slot].number % n;
    }

    // ---- rows, images: promises 37 to 41

    public int tell(int v) {
        if (waits >= MOST_WAITING) {
            return FULL;
        }
        waiting[waits] = v;
        waits++;
        return waits;
    }

    public int check(int n) {
        int given = waits;
        waits = 0;
        if (!isWithin(n, 1, MOST_CHECKED)) {
            return BAD;
        }
        if (!imageKept) {
            return NO;
        }
        thought.become(image);
        int hours = Math.min(n, thought.hoursLeft());
        for (int i = 0; i < hours; i++) {
            thought.passHour();
            if (!isWaiting(2 * i, given, thought.roofsWater())) {
                return 1 + 2 * i;
            }
            if (!isWaiting(2 * i + 1, given, thought.streetSnow)) {
                return 2 + 2 * i;
            }
        }
        return given > 2 * hours ? 1 + 2 * hours : 0;
    }

    public int keep() {
        image.become(now);
        imageKept = true;
        return image.many;
    }

    public int back() {
        if (!imageKept) {
            return NO;
        }
        now.become(image);
        return now.many;
    }

    public int count(int what) {
        switch (what) {
            case 0: return now.many;
            case 1: return now.hour;
            case 2: return now.dusk;
            case 3: return now.roofsWater();
            case 4: return now.roofsSnow();
            case 5: return now.texts;
            case 6: return waits;
            case 7: return tapeLength;
            case 8: return now.z;
            default: return BAD;
        }
    }

    // ---- what the calls above share

    private static boolean isWithin(int v, int least, int most) {
        return v >= least && v <= most;
    }

    private static boolean isKind(int kind) {
        return isWithin(kind, 0, KINDS - 1);
    }

    private boolean isRoof(int number) {
        return isWithin(number, 0, now.many - 1);
    }

    private static boolean isSheet(int number) {
        return isWithin(number, 0, SHEETS - 1);
    }

    private static boolean isSlot(int number) {
        return isWithin(number, 0, SLOTS - 1);
    }

    private static int changeSize(Roof r, int v) {
        int was = r.size;
        r.size = v;
        return was;
    }

    private static int changeHeat(Roof r, int v) {
        int was = r.heat;
        r.heat = v;
        return was;
    }

    private int changeRoom(Roof r, int v) {
        int was = r.room;
        r.room = v;
        now.lost += r.takeWater(0);
        return was;
    }

    private static int change(int[] hours, int hour, int v) {
        int was = hours[hour];
        hours[hour] = v;
        return was;
    }

    private int yieldOfHeat(int roof, int n, int heat) {
        thought.become(now);
        thought.roofs[roof].heat = heat;
        thought.passHours(n);
        return thought.roofs[roof].water - n * heat;
    }

    private void thinkOfWaters(int n) {
        thought.become(now);
        thought.passHours(n);
        for (int i = 0; i < thought.many; i++) {
            waters[i] = thought.roofs[i].water;
        }
    }

    private int misfit(Sheet s, int dusk) {
        thought.become(now);
        thought.dusk = dusk;
        int together = 0;
        for (int k = 0; k < s.places; k++) {
            if (k > 0) {
                thought.passHour();
            }
            if (s.isNumber(k)) {
                together += Math.abs(thought.streetWater - s.row[k]);
            }
        }
        return together;
    }

    private void putBytes(int number, int at) {
        for (int i = 0; i < 4; i++) {
            tape[at + i] = number >>> (24 - 8 * i) & 255;
        }
    }

    private boolean isWaiting(int place, int given, int v) {
        return place < given && waiting[place] == v;
    }

    /** One roof, and what its kind makes of it. */
    private static final class Roof {
        int kind;
        int size;
        int heat;
        int room;
        int water;
        int snow;

        void begin(int newKind, int newSize) {
            kind = newKind;
            size = newSize;
            heat = 0;
            room = 100;
            water = 0;
            snow = 0;
        }

        void become(Roof other) {
            kind = other.kind;
            size = other.size;
            heat = other.heat;
            room = other.room;
            water = other.water;
            snow = other.snow;
        }

        boolean isOf(int asked) {
            int at = kind;
            for (int step = 0; step < KINDS && at >= 0 && at < KINDS; step++) {
                if (at == asked) {
                    return true;
                }
                at = ABOVE[at];
            }
            return false;
        }

        int bears() {
            if (isOf(FLAT)) {
                return MOST_SNOW;
            }
            return isOf(STEEP) ? 10 * size : 50 * size;
        }

        int worth() {
            switch (kind) {
                case STEEP: return size + 3;
                case LEANING: return 2 * (size + 3);
                case FLAT: return 20 - size;
                case DAMMED: return 20 - size - 2;
                case GLASS: return 30;
                default: return size;
            }
        }

        /** Takes what there is room for; answers what runs over. */
        int takeWater(int kilos) {
            int over = Math.max(0, water + kilos - room);
            water += kilos - over;
            return over;
        }

        /** Takes what it can hold; answers what falls off. */
        int takeSnow(int kilos) {
            int over = Math.max(0, snow + kilos - MOST_SNOW);
            snow += kilos - over;
            return over;
        }
    }

    /** All that an image keeps; the texts themselves stand in the laws, which only grow behind an image. */
    private static final class World {
        final Laws laws;
        final Roof[] roofs = new Roof[MOST_ROOFS];
        final int[] air = new int[HOURS];
        final int[] fall = new int[HOURS];
        /** By key, the text that counts, or NONE. */
        final int[] counting = {NONE, NONE, NONE};
        int texts = 0;
        int many = 0;
        int dusk = 18;
        int hour = 0;
        int z = 1;
        int streetSnow = 0;
        int streetWater = 0;
        int nobodys = 0;
        int lost = 0;
        int stolen = 0;
        int used = 0;

        World(Laws laws) {
            this.laws = laws;
            for (int i = 0; i < MOST_ROOFS; i++) {
                roofs[i] = new Roof();
            }
        }

        void become(World other) {
            many = other.many;
            for (int i = 0; i < many; i++) {
                roofs[i].become(other.roofs[i]);
            }
            System.arraycopy(other.air, 0, air, 0, HOURS);
            System.arraycopy(other.fall, 0, fall, 0, HOURS);
            System.arraycopy(other.counting, 0, counting, 0, KEYS);
            texts = other.texts;
            dusk = other.dusk;
            hour = other.hour;
            z = other.z;
            streetSnow = other.streetSnow;
            streetWater = other.streetWater;
            nobodys = other.nobodys;
            lost = other.lost;
            stolen = other.stolen;
            used = other.used;
        }

        /** Only called while there is room for one more. */
        int addRoof(int kind, int size) {
            int number = many;
            roofs[number].begin(kind, size);
            many++;
            return number;
        }

        int draw() {
            z = z * 1103515245 + 12345;
            return z >>> 8;
        }

        int hourOfDay() {
            return hour % HOURS;
        }

        int hoursLeft() {
            return LAST_HOUR - hour;
        }

        int warmth(Roof r) {
            return air[hourOfDay()] + r.heat;
        }

        int melts(Roof r) {
            int warm = warmth(r);
            int law = counting[MELT];
            int given = law == NONE ? r.size * warm : laws.give(law, warm, r.snow, r.size);
            int plain = Math.max(0, Math.min(given, r.snow));
            switch (r.kind) {
                case GLASS: return Math.min(2 * plain, r.snow);
                case DAMMED: return plain / 2;
                default: return plain;
            }
        }

        boolean owns(Roof r) {
            int law = counting[OWNER];
            if (law == NONE) {
                return hourOfDay() >= dusk;
            }
            return laws.give(law, hourOfDay(), warmth(r), 0) != 0;
        }

        int fineFor(Roof r) {
            int law = counting[FINE];
            return law == NONE ? stolen : laws.give(law, r.water, stolen, 0);
        }

        /** Answers how many slides there were. */
        int passHours(int n) {
            int slides = 0;
            for (int i = 0; i < n; i++) {
                slides += passHour();
            }
            return slides;
        }

        int passHour() {
            int a = air[hourOfDay()];
            int f = fall[hourOfDay()];
            if (a > 0) {
                letRain(f);
            } else if (a < 0) {
                letSnow(f);
            } else {
                letHail(f);
            }
            int slides = letSlide();
            letMelt();
            if (a > 0) {
                int thawed = Math.min(streetSnow, 5 * a);
                streetSnow -= thawed;
                streetWater += thawed;
            }
            hour++;
            return slides;
        }

        private void letRain(int f) {
            for (int i = 0; i < many; i++) {
                lost += roofs[i].takeWater(f * roofs[i].size);
            }
            streetWater += 10 * f;
        }

        private void letSnow(int f) {
            for (int i = 0; i < many; i++) {
                streetSnow += roofs[i].takeSnow(f * roofs[i].size);
            }
            streetSnow += 10 * f;
        }

        private void letHail(int f) {
            for (int i = 0; i < many; i++) {
                nobodys += f * roofs[i].size;
            }
            nobodys += 10 * f;
        }

        /** By numbers, so that a roof that snow slides onto may slide in the same hour. */
        private int letSlide() {
            int slides = 0;
            for (int i = 0; i < many; i++) {
                Roof r = roofs[i];
                if (r.snow > r.bears()) {
                    int sliding = r.snow;
                    r.snow = 0;
                    boolean toNext = r.isOf(LEANING) && i + 1 < many;
                    streetSnow += toNext ? roofs[i + 1].takeSnow(sliding) : sliding;
                    slides++;
                }
            }
            return slides;
        }

        private void letMelt() {
            for (int i = 0; i < many; i++) {
                Roof r = roofs[i];
                // laws are worked out only where something lies: what is thought runs through many bare hours
                int melted = r.snow > 0 ? melts(r) : 0;
                r.snow -= melted;
                if (melted > 0 && owns(r)) {
                    lost += r.takeWater(melted);
                } else {
                    streetWater += melted;
                }
            }
        }

        int roofsWater() {
            int together = 0;
            for (int i = 0; i < many; i++) {
                together += roofs[i].water;
            }
            return together;
        }

        int roofsSnow() {
            int together = 0;
            for (int i = 0; i < many; i++) {
                together += roofs[i].snow;
            }
            return together;
        }

        int allKilos() {
            return roofsWater() + roofsSnow() + streetSnow + streetWater + nobodys + lost + used;
        }
    }

    /**
     * The texts, each as a row of steps: an operand is put on a stack, a sign joins what lies on top.
     * A step below NAME is a number, one below SIGN a name, any other a sign.
     */
    private static final class Laws {
        static final int NAME = 10000, SIGN = 20000;

        final int[] keys = new int[MOST_TEXTS];
        final int[] operands = new int[MOST_TEXTS];
        final int[] lengths = new int[MOST_TEXTS];
        final int[][] steps = new int[MOST_TEXTS][MOST_BYTES];
        final int[] stack = new int[MOST_BYTES];

        void put(int number, Reader read) {
            keys[number] = read.key;
            operands[number] = read.operands;
            lengths[number] = read.length;
            System.arraycopy(read.steps, 0, steps[number], 0, read.length);
        }

        /** The reader leaves enough on the stack for each sign; the tests of top say so to the machine. */
        int give(int law, int first, int second, int third) {
            int top = 0;
            for (int i = 0; i < lengths[law]; i++) {
                int step = steps[law][i];
                if (step < SIGN && top < MOST_BYTES) {
                    stack[top] = step < NAME ? step : step == NAME ? first : step == NAME + 1 ? second : third;
                    top++;
                } else if (step == SIGN + '!' && top > 0) {
                    stack[top - 1] = stack[top - 1] == 0 ? 1 : 0;
                } else if (top > 1) {
                    top--;
                    stack[top - 1] = joined(step - SIGN, stack[top - 1], stack[top]);
                }
            }
            return stack[0];
        }

        private static int joined(int sign, int left, int right) {
            switch (sign) {
                case '+': return left + right;
                case '-': return left - right;
                case '*': return left * right;
                case '/': return right == 0 ? 0 : left / right;
                case '<': return left < right ? 1 : 0;
                case '=': return left == right ? 1 : 0;
                case '>': return left > right ? 1 : 0;
                case '&': return left != 0 && right != 0 ? 1 : 0;
                default: return left != 0 || right != 0 ? 1 : 0;
            }
        }
    }

    /** Reads the tape as a text; start is the place of the fault, if it is none. */
    private static final class Reader {
        static final int END = 0, LETTERS = 1, DIGITS = 2, A_SIGN = 3, GLUED = 4;
        static final int TEST = 2, PIECE = 5;
        static final int BLANK = 32, MOST_DIGITS = 4, MOST_OPEN = 8;

        final int[] bytes;
        final int[] steps = new int[MOST_BYTES];
        int length;
        int key;
        int operands;
        /** Of the word or sign that is looked at: its first byte, the place behind it, what it is. */
        int start;
        int end;
        int sort;
        private int bytesLength;

        Reader(int[] bytes) {
            this.bytes = bytes;
        }

        boolean readText(int howMany) {
            bytesLength = howMany;
            length = 0;
            operands = 0;
            end = 0;
            sort = END;
            goOn();
            return readKey() && readLevel(0, 0, 0) && sort == END;
        }

        private boolean readKey() {
            for (int k = 0; k < KEYS; k++) {
                if (isWord(keyWord(k))) {
                    key = k;
                    goOn();
                    return true;
                }
            }
            return false;
        }

        /** Levels from the loosest on: |, &, tests, sums, terms, pieces. */
        private boolean readLevel(int level, int opens, int nots) {
            if (level >= PIECE) {
                return readPiece(opens, nots);
            }
            if (!readLevel(level + 1, opens, nots)) {
                return false;
            }
            int mostSigns = level == TEST ? 1 : MOST_BYTES;
            for (int i = 0; i < mostSigns && isSignOf(level); i++) {
                int sign = bytes[start];
                goOn();
                if (!readLevel(level + 1, opens, nots)) {
                    return false;
                }
                addStep(Laws.SIGN + sign);
            }
            return true;
        }

        private boolean readPiece(int opens, int nots) {
            if (sort == DIGITS) {
                return end - start <= MOST_DIGITS && addOperand(numberRead());
            }
            if (sort == LETTERS) {
                int name = nameRead();
                return name >= 0 && addOperand(Laws.NAME + name);
            }
            if (isSign('!') && nots < MOST_OPEN) {
                goOn();
                return readPiece(opens, nots + 1) && addStep(Laws.SIGN + '!');
            }
            if (isSign('(') && opens < MOST_OPEN) {
                goOn();
                if (!readLevel(0, opens + 1, nots) || !isSign(')')) {
                    return false;
                }
                goOn();
                return true;
            }
            return false;
        }

        private boolean addOperand(int step) {
            operands++;
            goOn();
            return addStep(step);
        }

        private boolean addStep(int step) {
            if (length >= MOST_BYTES) {
                return false;
            }
            steps[length] = step;
            length++;
            return true;
        }

        private boolean isSign(int sign) {
            return sort == A_SIGN && bytes[start] == sign;
        }

        private boolean isSignOf(int level) {
            switch (level) {
                case 0: return isSign('|');
                case 1: return isSign('&');
                case TEST: return isSign('<') || isSign('=') || isSign('>');
                case 3: return isSign('+') || isSign('-');
                default: return isSign('*') || isSign('/');
            }
        }

        private int numberRead() {
            int number = 0;
            for (int i = start; i < end; i++) {
                number = 10 * number + bytes[i] - '0';
            }
            return number;
        }

        private int nameRead() {
            return end - start == 1 ? namesOf(key).indexOf((char) bytes[start]) : -1;
        }

        private boolean isWord(String word) {
            if (sort != LETTERS || end - start != word.length()) {
                return false;
            }
            for (int i = 0; i < word.length(); i++) {
                if (bytes[start + i] != word.charAt(i)) {
                    return false;
                }
            }
            return true;
        }

        private static String keyWord(int key) {
            switch (key) {
                case MELT: return "melt";
                case OWNER: return "owner";
                default: return "fine";
            }
        }

        /** In the order in which their values are handed to Laws.give. */
        private static String namesOf(int key) {
            switch (key) {
                case MELT: return "wsz";
                case OWNER: return "hw";
                default: return "ws";
            }
        }

        /** To the next word or sign; a word that lacks its blank fits nowhere. */
        private void goOn() {
            boolean behindWord = sort == LETTERS || sort == DIGITS;
            int at = end;
            while (at < bytesLength && bytes[at] == BLANK) {
                at++;
            }
            boolean blankAhead = at > end;
            start = at;
            end = at;
            if (at >= bytesLength) {
                sort = END;
                return;
            }
            int found = sortOf(bytes[at]);
            at++;
            while (found != A_SIGN && at < bytesLength && sortOf(bytes[at]) == found) {
                at++;
            }
            end = at;
            sort = found != A_SIGN && behindWord && !blankAhead ? GLUED : found;
        }

        private static int sortOf(int b) {
            if (b >= 'a' && b <= 'z') {
                return LETTERS;
            }
            return b >= '0' && b <= '9' ? DIGITS : A_SIGN;
        }
    }

    /** A row of shorts or floats; NONE in it stands for no number. */
    private static final class Sheet {
        int sort = MISSING;
        int places = 0;
        final int[] row = new int[MOST_PLACES];

        boolean isMissing() {
            return sort == MISSING;
        }

        void lose() {
            sort = MISSING;
            places = 0;
        }

        void begin(int newSort, int newPlaces) {
            sort = newSort;
            places = newPlaces;
            for (int i = 0; i < MOST_PLACES; i++) {
                row[i] = 0;
            }
        }

        void become(Sheet other) {
            sort = other.sort;
            places = other.places;
            System.arraycopy(other.row, 0, row, 0, MOST_PLACES);
        }

        boolean hasPlace(int place) {
            return place >= 0 && place < places;
        }

        boolean hasPlaces(int first, int howMany) {
            return howMany >= 0 && first >= 0 && first <= places && howMany <= places - first;
        }

        boolean isNumber(int place) {
            return row[place] != NONE;
        }

        int write(int place, int v) {
            row[place] = v;
            return 1;
        }
    }

    /** Holds one thing at a time; the rows for each are kept ready. */
    private static final class Slot {
        int thing = EMPTY;
        int number = 0;
        final Roof roofHeld = new Roof();
        final Sheet sheetHeld = new Sheet();

        /** 0, if that thing is held. */
        int findingFor(int wanted) {
            if (thing == EMPTY) {
                return NOTHING;
            }
            return thing == wanted ? 0 : KIND;
        }
    }
}
