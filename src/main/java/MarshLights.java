import java.util.Arrays;

/** Lights over a marsh: who sees what from where, what was told of it, and what an office says. */
public final class MarshLights {
    public static final int NONE = -1;
    public static final int VOID = -2147483648;

    private static final int SIDE = 64;
    private static final int PLACES = 4096;
    private static final int MINUTES = 240;
    private static final int WAYS = 256;
    private static final int TOP_SLOPE = 999;
    private static final int TOP_Z = 255;
    private static final int TOP_LIGHTS = 9;
    // A line of sight is looked at in sixteenths; a shift by 4 is a division by 16 that cuts downwards.
    private static final int STEPS = 16;
    private static final int STEP_BITS = 4;

    private static final int MOST_HILLS = 8;
    private static final int MOST_SEERS = 20;
    private static final int MOST_THINGS = 12;
    private static final int MOST_TELLINGS = 60;
    private static final int MOST_BYTES = 400;
    private static final int MOST_CLAUSES = 12;
    private static final int MOST_BRACKETS = 8;
    private static final int MOST_DRAWN = 20;

    private static final int STAR = 0;
    private static final int FLIGHT = 1;
    private static final int FLARE = 2;
    private static final int LAMP = 3;
    private static final int BALLOON = 4;
    private static final int BURNING = 5;

    // Tokens: a number is its own value, a word its place in WORDS, a sign its byte.
    private static final int TOP_NUMBER = 9999;
    private static final int FIRST_WORD = 10000;
    private static final int GROW = FIRST_WORD;
    private static final int SAY = FIRST_WORD + 1;
    private static final int IF = FIRST_WORD + 2;
    private static final int AND = FIRST_WORD + 3;
    private static final int FIRST_KIND = FIRST_WORD + 4;
    private static final int KINDS = 7;
    private static final int FIRST_VALUE = FIRST_KIND + KINDS;
    private static final int VALUES = 7;
    private static final String WORDS = "grow say if and star flight flare lamp balloon burning none lights hull days papers minute way slope ";
    private static final int FIRST_SIGN = 20000;
    private static final int PLUS = FIRST_SIGN + '+';
    private static final int MINUS = FIRST_SIGN + '-';
    private static final int TIMES = FIRST_SIGN + '*';
    private static final int LESS = FIRST_SIGN + '<';
    private static final int EQUAL = FIRST_SIGN + '=';
    private static final int OPEN = FIRST_SIGN + '(';
    private static final int CLOSE = FIRST_SIGN + ')';
    private static final int STOP = FIRST_SIGN + ';';
    private static final String SIGNS = "+-*<=();";
    private static final int TEXT_END = 30000;
    private static final int NO_TOKEN = 30001;

    private final Land land = new Land();
    private final Sight sight = new Sight(land);
    private final int[] seerPlaces = new int[MOST_SEERS];
    private int seerCount;
    private final Thing[] things = new Thing[MOST_THINGS];
    private int thingCount;
    private final Telling[] tellings = new Telling[MOST_TELLINGS];
    private int tellingCount;
    private int wayOff = 8;
    private int slopeOff = 20;
    // What tellings keep of their fitting is good for as long as this stays.
    private int changes = 1;
    private final int[] rowOfThings = new int[MOST_THINGS];
    private final int[] rowOfTellings = new int[MOST_TELLINGS];
    private final Crossing crossing = new Crossing();
    private final Reader reader = new Reader();
    private Rules rulesNow = new Rules();
    private Rules rulesSpare = new Rules();
    private final int[] values = new int[VALUES];
    private int lotState;

    public MarshLights() {
        for (int i = 0; i < MOST_THINGS; i++) {
            things[i] = new Thing();
        }
        for (int i = 0; i < MOST_TELLINGS; i++) {
            tellings[i] = new Telling();
        }
    }

    // ---- land, seers and things ----

    public int hill(int one, int other, int height) {
        if (!isPlace(one) || !isPlace(other) || height < 1 || height > 60) {
            return NONE;
        }
        int number = land.raise(one, other, height);
        if (number != NONE) {
            changes++;
        }
        return number;
    }

    public int seer(int place) {
        if (!isPlace(place) || seerCount >= MOST_SEERS) {
            return NONE;
        }
        seerPlaces[seerCount] = place;
        return seerCount++;
    }

    public int star(int way, int slope, int turn) {
        if (!isWay(way) || !isToldSlope(slope) || turn < -9 || turn > 9 || thingCount >= MOST_THINGS) {
            return NONE;
        }
        Thing thing = newThing(STAR, MINUTES - 1, 0, 0);
        thing.way = way;
        thing.slope = slope;
        thing.turn = turn;
        return thingCount - 1;
    }

    public int flies(int kind, int minutes, int place, int z, int speed) {
        int divisor = divisorOf(kind);
        if (divisor == 0 || !isSpan(minutes) || !isPlace(place) || !isHeight(z) || !isSpeed(speed)
                || thingCount >= MOST_THINGS) {
            return NONE;
        }
        Thing thing = newThing(kind, minutes, place, z);
        thing.dx = speed / 100 - 20;
        thing.dy = speed % 100 - 20;
        thing.divisor = divisor;
        return thingCount - 1;
    }

    public int flare(int minutes, int place, int z, int fall) {
        if (!isSpan(minutes) || !isPlace(place) || !isHeight(z) || !isFall(fall) || thingCount >= MOST_THINGS) {
            return NONE;
        }
        Thing thing = newThing(FLARE, minutes, place, z);
        thing.fall = fall;
        return thingCount - 1;
    }

    public int lamp(int place, int height, int period, int rest) {
        if (!isPlace(place) || height < 0 || height > 60 || period < 1 || period > 30 || rest < 0 || rest >= period
                || thingCount >= MOST_THINGS) {
            return NONE;
        }
        Thing thing = newThing(LAMP, MINUTES - 1, place, height);
        thing.period = period;
        thing.rest = rest;
        return thingCount - 1;
    }

    public int ground(int place) {
        return isPlace(place) ? land.groundAt(place / SIDE, place % SIDE) : NONE;
    }

    public int at(int thing, int minute, int what) {
        if (!isThing(thing) || !isMinute(minute) || what < 0 || what > 3) {
            return VOID;
        }
        Thing one = things[thing];
        if (what == 3) {
            return one.kind;
        }
        if (!one.isThere(minute, land)) {
            return VOID;
        }
        if (what == 0) {
            return one.xIn(minute);
        }
        return what == 1 ? one.yIn(minute) : one.zIn(minute, land);
    }

    public int seen(int thing, int seer, int minute, int what) {
        if (!isThing(thing) || !isSeer(seer) || !isMinute(minute) || what < 0 || what > 3) {
            return VOID;
        }
        boolean there = sight.look(things[thing], seerPlaces[seer], minute);
        if (what == 2) {
            return there && sight.hidingHill() == NONE ? 1 : 0;
        }
        if (!there) {
            return VOID;
        }
        if (what == 0) {
            return sight.way;
        }
        return what == 1 ? sight.slope : sight.hidingHill();
    }

    // ---- tellings ----

    public int tell(int seer, int minutes, int begin, int end, int lights) {
        if (!isSeer(seer) || !isSpan(minutes) || !isDirection(begin) || !isDirection(end) || !isLightsAndHull(lights)
                || tellingCount >= MOST_TELLINGS) {
            return NONE;
        }
        Telling telling = tellings[tellingCount];
        telling.seer = seer;
        telling.first = minutes / 1000;
        telling.last = minutes % 1000;
        telling.firstWay = begin / 1000;
        telling.firstSlope = begin % 1000;
        telling.lastWay = end / 1000;
        telling.lastSlope = end % 1000;
        telling.lights = lights % 10;
        telling.hull = lights / 10;
        telling.fittingOf = 0;
        telling.askedOf = 0;
        return tellingCount++;
    }

    public int undo() {
        if (tellingCount == 0) {
            return NONE;
        }
        tellingCount--;
        return tellingCount;
    }

    public boolean off(int a, int b) {
        if (a < 0 || a > 32 || b < 0 || b > 200) {
            return false;
        }
        wayOff = a;
        slopeOff = b;
        changes++;
        return true;
    }

    public int telling(int telling, int what) {
        return isTelling(telling) ? tellings[telling].part(what) : NONE;
    }

    public int fits(int telling, int k) {
        if (!isTelling(telling)) {
            return NONE;
        }
        int fitting = fittingOf(tellings[telling]);
        if (k == NONE) {
            return Integer.bitCount(fitting);
        }
        int passed = 0;
        for (int i = 0; i < thingCount; i++) {
            if ((fitting >> i & 1) == 1) {
                if (passed == k) {
                    return i;
                }
                passed++;
            }
        }
        return NONE;
    }

    public int left(int k) {
        int passed = 0;
        for (int i = 0; i < tellingCount; i++) {
            if (fittingOf(tellings[i]) == 0) {
                if (passed == k) {
                    return i;
                }
                passed++;
            }
        }
        return k == NONE ? passed : NONE;
    }

    public int fewest() {
        int needs = gatherNeeds();
        int best = 0;
        int bestCount = MOST_THINGS + 1;
        for (int set = 0; set < 1 << thingCount; set++) {
            int members = Integer.bitCount(set);
            if (members < bestCount && meetsAll(set, needs)) {
                best = set;
                bestCount = members;
            }
        }
        return best;
    }

    public int joined(int one, int other) {
        if (!isTelling(one) || !isTelling(other)) {
            return NONE;
        }
        Telling a = tellings[one];
        Telling b = tellings[other];
        if (a.seer == b.seer || a.first > b.last || b.first > a.last) {
            return NONE;
        }
        int fitA = fittingOf(a);
        int fitB = fittingOf(b);
        if (fitA == 0 || fitB == 0) {
            return 0;
        }
        return (fitA & fitB) != 0 ? 2 : 1;
    }

    public int cross(int one, int other, int what) {
        if (!isTelling(one) || !isTelling(other)) {
            return NONE;
        }
        Telling a = tellings[one];
        Telling b = tellings[other];
        if (a.seer == b.seer || a.first != b.first) {
            return NONE;
        }
        crossing.clear();
        for (int place = 0; place < PLACES; place++) {
            if (pointsAt(a, place) && pointsAt(b, place)) {
                crossing.add(place, shareHeight(a, b, place));
            }
        }
        return crossing.part(what);
    }

    public int out(int flare, int seer) {
        if (!isThing(flare) || !isSeer(seer) || things[flare].kind != FLARE) {
            return NONE;
        }
        Thing thing = things[flare];
        boolean shownAhead = false;
        for (int minute = thing.first; minute <= thing.last; minute++) {
            boolean shown = sight.shows(thing, seerPlaces[seer], minute);
            if (shownAhead && !shown) {
                return minute;
            }
            shownAhead = shown;
        }
        return shownAhead ? thing.last + 1 : NONE;
    }

    public int outs(int seer, int minutes, int z, int fall) {
        if (!isSeer(seer) || !isSpan(minutes) || !isHeight(z) || !isFall(fall)) {
            return NONE;
        }
        int lapse = minutes % 1000 - minutes / 1000;
        if (lapse < 1 || lapse > 20) {
            return NONE;
        }
        // A flare never rises: it goes out when its height first comes below the least that is shown.
        int zThen = z - fall * lapse;
        int zAhead = zThen + fall;
        int outs = 0;
        for (int place = 0; place < PLACES; place++) {
            int least = leastShown(seerPlaces[seer], place);
            if (zAhead >= least && zThen < least) {
                outs++;
            }
        }
        return outs;
    }

    public int size(int telling, int thing, int size, int far) {
        if (!isTelling(telling) || !isThing(thing) || size < 1 || size > 10000 || far < 1 || far > 10000) {
            return NONE;
        }
        Telling told = tellings[telling];
        Thing light = things[thing];
        if (!light.isThere(told.first, land)) {
            return NONE;
        }
        int place = seerPlaces[told.seer];
        int away = Math.abs(light.xIn(told.first) - place / SIDE) + Math.abs(light.yIn(told.first) - place % SIDE);
        return size * away / far;
    }

    public int hulls(int lights, int what) {
        if (!isLights(lights) || what < 0 || what > 1) {
            return NONE;
        }
        int found = 0;
        for (int i = 0; i < tellingCount; i++) {
            Telling telling = tellings[i];
            if (telling.lights >= lights && telling.hull >= what && fittingOf(telling) != 0) {
                found++;
            }
        }
        return found;
    }

    public int ask(int what) {
        int best = NONE;
        int bestCouples = 0;
        for (int i = 0; i < tellingCount; i++) {
            weighMinutes(tellings[i]);
            if (tellings[i].askCouples > bestCouples) {
                best = i;
                bestCouples = tellings[i].askCouples;
            }
        }
        if (best == NONE) {
            return NONE;
        }
        switch (what) {
            case 0:
                return best;
            case 1:
                return tellings[best].askMinute;
            case 2:
                return bestCouples;
            default:
                return NONE;
        }
    }

    // ---- the office and its rules ----

    public int feed(int a, int b, int c, int d, int e) {
        if (reader.length + 20 > MOST_BYTES) {
            return NONE;
        }
        reader.append(a);
        reader.append(b);
        reader.append(c);
        reader.append(d);
        reader.append(e);
        return reader.length;
    }

    public boolean end(int n) {
        if (n < 0 || n > reader.length) {
            return false;
        }
        reader.length = n;
        return true;
    }

    public int fault() {
        return reader.judge(rulesSpare);
    }

    public int rules() {
        if (reader.judge(rulesSpare) != NONE) {
            return NONE;
        }
        Rules gone = rulesNow;
        rulesNow = rulesSpare;
        rulesSpare = gone;
        reader.length = 0;
        return rulesNow.clauses;
    }

    public int office(int telling, int days, int papers, int what) {
        if (!isTelling(telling) || !isLater(days) || !isLater(papers) || what < 0 || what > 2) {
            return NONE;
        }
        Telling told = tellings[telling];
        setValues(told.lights, told.hull, days, papers);
        values[4] = told.first;
        values[5] = told.firstWay;
        values[6] = told.firstSlope;
        int clause = rulesNow.firstHolding(values);
        if (what == 1) {
            return clause;
        }
        int kind = clause == NONE ? STAR : rulesNow.clauseKinds[clause];
        if (what == 0) {
            return kind;
        }
        return isHasty(told, kind) ? 1 : 0;
    }

    public int grown(int lights, int hull, int days, int papers) {
        if (!isLights(lights) || !isHull(hull) || !isLater(days) || !isLater(papers)) {
            return NONE;
        }
        return growth(lights, hull, days, papers);
    }

    public int before(int grown, int hull, int days, int papers) {
        if (grown < 1 || grown > 99 || !isHull(hull) || !isLater(days) || !isLater(papers)) {
            return NONE;
        }
        int bits = 0;
        for (int lights = 1; lights <= TOP_LIGHTS; lights++) {
            if (growth(lights, hull, days, papers) == grown) {
                bits |= 1 << (lights - 1);
            }
        }
        return bits;
    }

    // ---- lots ----

    public int draw(int seed, int n) {
        if (seed < 0 || seed > 1000000 || n < 1 || n > MOST_DRAWN || thingCount == 0 || seerCount == 0) {
            return NONE;
        }
        lotState = seed;
        int told = 0;
        for (int i = 0; i < n; i++) {
            if (drawTelling()) {
                told++;
            }
        }
        return told;
    }

    public int count(int what) {
        switch (what) {
            case 0:
                return land.hills;
            case 1:
                return seerCount;
            case 2:
                return thingCount;
            case 3:
                return tellingCount;
            case 4:
                return rulesNow.clauses;
            case 5:
                return wayOff;
            case 6:
                return slopeOff;
            case 7:
                return reader.length;
            default:
                return NONE;
        }
    }

    // ---- what can be ----

    private static boolean isPlace(int place) {
        return place >= 0 && place < PLACES;
    }

    private static boolean isMinute(int minute) {
        return minute >= 0 && minute < MINUTES;
    }

    private static boolean isSpan(int minutes) {
        return minutes >= 0 && minutes / 1000 < MINUTES && minutes % 1000 < MINUTES
                && minutes / 1000 <= minutes % 1000;
    }

    private static boolean isHeight(int z) {
        return z >= 0 && z <= TOP_Z;
    }

    private static boolean isFall(int fall) {
        return fall >= 0 && fall <= 20;
    }

    private static boolean isSpeed(int speed) {
        return speed >= 0 && speed / 100 <= 40 && speed % 100 <= 40;
    }

    private static boolean isWay(int way) {
        return way >= 0 && way < WAYS;
    }

    private static boolean isToldSlope(int slope) {
        return slope >= 0 && slope <= TOP_SLOPE;
    }

    private static boolean isDirection(int direction) {
        return direction >= 0 && direction / 1000 < WAYS;
    }

    private static boolean isLights(int lights) {
        return lights >= 1 && lights <= TOP_LIGHTS;
    }

    private static boolean isHull(int hull) {
        return hull == 0 || hull == 1;
    }

    private static boolean isLightsAndHull(int lights) {
        return lights >= 0 && isLights(lights % 10) && isHull(lights / 10);
    }

    private static boolean isLater(int daysOrPapers) {
        return daysOrPapers >= 0 && daysOrPapers <= 99;
    }

    private boolean isSeer(int seer) {
        return seer >= 0 && seer < seerCount;
    }

    private boolean isThing(int thing) {
        return thing >= 0 && thing < thingCount;
    }

    private boolean isTelling(int telling) {
        return telling >= 0 && telling < tellingCount;
    }

    // ---- helpers of things ----

    /** By what a kind's speed is divided; 0 of a kind that doesn't fly. */
    private static int divisorOf(int kind) {
        switch (kind) {
            case FLIGHT:
                return 4;
            case BALLOON:
                return 16;
            case BURNING:
                return 1;
            default:
                return 0;
        }
    }

    /** The next row of the things; the caller has looked that there is one. */
    private Thing newThing(int kind, int minutes, int place, int z) {
        Thing thing = things[thingCount];
        thing.kind = kind;
        thing.first = minutes / 1000;
        thing.last = minutes % 1000;
        thing.x = place / SIDE;
        thing.y = place % SIDE;
        thing.z = z;
        thingCount++;
        changes++;
        return thing;
    }

    // ---- helpers of tellings ----

    private int fittingOf(Telling telling) {
        if (telling.fittingOf != changes) {
            int bits = 0;
            for (int i = 0; i < thingCount; i++) {
                if (isLike(telling, things[i])) {
                    bits |= 1 << i;
                }
            }
            telling.fitting = bits;
            telling.fittingOf = changes;
        }
        return telling.fitting;
    }

    private boolean isLike(Telling telling, Thing thing) {
        int place = seerPlaces[telling.seer];
        return sight.look(thing, place, telling.first)
                && isNear(telling.firstWay, telling.firstSlope)
                && sight.hidingHill() == NONE
                && sight.look(thing, place, telling.last)
                && isNear(telling.lastWay, telling.lastSlope)
                && sight.hidingHill() == NONE;
    }

    private boolean isNear(int way, int slope) {
        return apart(sight.way, way) <= wayOff && Math.abs(sight.slope - slope) <= slopeOff;
    }

    /** How far two ways are apart, by the shorter way round. */
    private static int apart(int one, int other) {
        int apart = Math.abs(one - other);
        return Math.min(apart, WAYS - apart);
    }

    /** Puts the unlike sets of fitting things into the row: how many. */
    private int gatherNeeds() {
        int needs = 0;
        for (int i = 0; i < tellingCount; i++) {
            int fitting = fittingOf(tellings[i]);
            boolean known = fitting == 0;
            for (int j = 0; j < needs && !known; j++) {
                known = rowOfTellings[j] == fitting;
            }
            if (!known) {
                rowOfTellings[needs] = fitting;
                needs++;
            }
        }
        return needs;
    }

    private boolean meetsAll(int set, int needs) {
        for (int i = 0; i < needs; i++) {
            if ((rowOfTellings[i] & set) == 0) {
                return false;
            }
        }
        return true;
    }

    /** Finds the minute of a telling that parts the most couples, and keeps it with the telling. */
    private void weighMinutes(Telling telling) {
        if (telling.askedOf == changes) {
            return;
        }
        int fitting = fittingOf(telling);
        telling.askCouples = 0;
        telling.askMinute = telling.first;
        telling.askedOf = changes;
        if (Integer.bitCount(fitting) < 2) {
            return;
        }
        for (int minute = telling.first; minute <= telling.last; minute++) {
            int couples = couplesParted(telling.seer, fitting, minute);
            if (couples > telling.askCouples) {
                telling.askCouples = couples;
                telling.askMinute = minute;
            }
        }
    }

    private int couplesParted(int seer, int fitting, int minute) {
        int shown = 0;
        int couples = 0;
        for (int i = 0; i < thingCount; i++) {
            if ((fitting >> i & 1) == 1 && sight.shows(things[i], seerPlaces[seer], minute)) {
                for (int j = 0; j < shown; j++) {
                    if (apart(rowOfThings[j], sight.way) > wayOff) {
                        couples++;
                    }
                }
                rowOfThings[shown] = sight.way;
                shown++;
            }
        }
        return couples + shown * (Integer.bitCount(fitting) - shown);
    }

    // ---- helpers of crossing and of flares ----

    private boolean pointsAt(Telling telling, int place) {
        int from = seerPlaces[telling.seer];
        if (from == place) {
            return false;
        }
        int way = wayOf(place / SIDE - from / SIDE, place % SIDE - from % SIDE);
        return apart(way, telling.firstWay) <= wayOff;
    }

    private boolean shareHeight(Telling a, Telling b, int place) {
        int least = Math.max(0, Math.max(leastHeight(a, place), leastHeight(b, place)));
        int greatest = Math.min(TOP_Z, Math.min(greatestHeight(a, place), greatestHeight(b, place)));
        return least <= greatest;
    }

    /** The least z over a place whose slope isn't too far below that told at first. */
    private int leastHeight(Telling telling, int place) {
        int from = seerPlaces[telling.seer];
        int lowest = telling.firstSlope - slopeOff;
        return eyeAt(from) + ceilDiv(lowest * distance(from, place), 100);
    }

    /** The greatest z over a place whose slope isn't too far above that told at first. */
    private int greatestHeight(Telling telling, int place) {
        int from = seerPlaces[telling.seer];
        int highest = telling.firstSlope + slopeOff;
        // Slopes are cut at their top, so that one which reaches it has no greatest height.
        if (highest >= TOP_SLOPE) {
            return TOP_Z;
        }
        return eyeAt(from) + ceilDiv((highest + 1) * distance(from, place), 100) - 1;
    }

    /** The least z at which a flare over a place is shown: above the ground and no hill in the way. */
    private int leastShown(int from, int place) {
        int fromX = from / SIDE;
        int fromY = from % SIDE;
        int dx = place / SIDE - fromX;
        int dy = place % SIDE - fromY;
        int eye = eyeAt(from);
        int least = land.groundAt(place / SIDE, place % SIDE) + 1;
        for (int k = 1; k < STEPS; k++) {
            int ground = land.groundAt(fromX + (dx * k >> STEP_BITS), fromY + (dy * k >> STEP_BITS));
            least = Math.max(least, eye + ceilDiv((ground - eye) * STEPS, k));
        }
        return least;
    }

    private int eyeAt(int place) {
        return land.groundAt(place / SIDE, place % SIDE) + 1;
    }

    private static int distance(int one, int other) {
        return Math.abs(one / SIDE - other / SIDE) + Math.abs(one % SIDE - other % SIDE);
    }

    /** The callers' divisors are above 0. */
    private static int ceilDiv(int n, int divisor) {
        return divisor < 1 ? n : -Math.floorDiv(-n, divisor);
    }

    private static int wayOf(int dx, int dy) {
        int s = Math.abs(dx) + Math.abs(dy);
        if (s == 0) {
            return 0;
        }
        if (dx > 0 && dy >= 0) {
            return 64 * dy / s;
        }
        if (dx <= 0 && dy > 0) {
            return 64 + 64 * -dx / s;
        }
        if (dx < 0) {
            return 128 + 64 * -dy / s;
        }
        return 192 + 64 * dx / s;
    }

    private static int slopeOf(int rise, int s) {
        if (s == 0) {
            return TOP_SLOPE;
        }
        return within(-TOP_SLOPE, Math.floorDiv(100 * rise, s), TOP_SLOPE);
    }

    private static int within(int least, int n, int greatest) {
        return Math.max(least, Math.min(n, greatest));
    }

    // ---- helpers of the office ----

    private void setValues(int lights, int hull, int days, int papers) {
        values[0] = lights;
        values[1] = hull;
        values[2] = days;
        values[3] = papers;
        values[4] = 0;
        values[5] = 0;
        values[6] = 0;
    }

    private boolean isHasty(Telling telling, int kind) {
        int fitting = fittingOf(telling);
        for (int i = 0; i < thingCount; i++) {
            if ((fitting >> i & 1) == 1 && things[i].kind == kind) {
                return false;
            }
        }
        return fitting != 0;
    }

    private int growth(int lights, int hull, int days, int papers) {
        if (!rulesNow.hasGrow) {
            return lights;
        }
        setValues(lights, hull, days, papers);
        return within(1, rulesNow.valueOf(rulesNow.growFrom, rulesNow.growTo, values), 99);
    }

    // ---- helpers of lots ----

    /** All eight lots are drawn ahead, whether it is told or not. */
    private boolean drawTelling() {
        Thing thing = things[lotBelow(thingCount)];
        int seer = lotBelow(seerCount);
        int first = lotBelow(MINUTES);
        int last = Math.min(first + lotBelow(10), MINUTES - 1);
        int offWay = lotBelow(2 * wayOff + 1) - wayOff;
        int offSlope = lotBelow(2 * slopeOff + 1) - slopeOff;
        int lights = lotBelow(TOP_LIGHTS) + 1;
        int hull = lotBelow(2);
        if (!sight.shows(thing, seerPlaces[seer], first)) {
            return false;
        }
        int begin = sightedOff(offWay, offSlope);
        if (!sight.shows(thing, seerPlaces[seer], last)) {
            return false;
        }
        int end = sightedOff(offWay, offSlope);
        return tell(seer, first * 1000 + last, begin, end, hull * 10 + lights) != NONE;
    }

    private int sightedOff(int offWay, int offSlope) {
        return Math.floorMod(sight.way + offWay, WAYS) * 1000 + within(0, sight.slope + offSlope, TOP_SLOPE);
    }

    private int lotBelow(int n) {
        lotState = (lotState * 1103515245 + 12345) & 0x7fffffff;
        return n < 1 ? 0 : lotState / 256 % n;
    }

    // ---- classes ----

    /** The hills, and of each place its ground and the hill that makes it. */
    private static final class Land {
        private final int[] grounds = new int[PLACES];
        private final int[] makers = new int[PLACES];
        private int highest;
        private int hills;

        Land() {
            Arrays.fill(makers, NONE);
        }

        int raise(int one, int other, int height) {
            if (hills >= MOST_HILLS) {
                return NONE;
            }
            int toX = Math.max(one / SIDE, other / SIDE);
            int toY = Math.max(one % SIDE, other % SIDE);
            for (int x = Math.min(one / SIDE, other / SIDE); x <= toX; x++) {
                for (int y = Math.min(one % SIDE, other % SIDE); y <= toY; y++) {
                    // Of hills of one height the one that came first stays the maker.
                    if (height > grounds[x * SIDE + y]) {
                        grounds[x * SIDE + y] = height;
                        makers[x * SIDE + y] = hills;
                    }
                }
            }
            highest = Math.max(highest, height);
            return hills++;
        }

        int groundAt(int x, int y) {
            return x >= 0 && x < SIDE && y >= 0 && y < SIDE ? grounds[x * SIDE + y] : 0;
        }

        int makerAt(int x, int y) {
            return x >= 0 && x < SIDE && y >= 0 && y < SIDE ? makers[x * SIDE + y] : NONE;
        }
    }

    /** A thing in the sky; what its kind has no use for stays 0, or 1 where it divides. */
    private static final class Thing {
        private int kind;
        private int first;
        private int last;
        private int x;
        private int y;
        private int z;
        private int dx;
        private int dy;
        private int divisor = 1;
        private int fall;
        private int period = 1;
        private int rest;
        private int way;
        private int slope;
        private int turn;

        /** Whether it has a place in the minute: a star never, a lamp also unlit. */
        boolean isThere(int minute, Land land) {
            if (kind == STAR || minute < first || minute > last) {
                return false;
            }
            return kind != FLARE || z - fall * (minute - first) > land.groundAt(x, y);
        }

        boolean isLit(int minute) {
            return kind != LAMP || period > 0 && minute % period == rest;
        }

        int xIn(int minute) {
            return divisor == 0 ? x : x + Math.floorDiv(dx * (minute - first), divisor);
        }

        int yIn(int minute) {
            return divisor == 0 ? y : y + Math.floorDiv(dy * (minute - first), divisor);
        }

        int zIn(int minute, Land land) {
            return kind == LAMP ? land.groundAt(x, y) + z : z - fall * (minute - first);
        }
    }

    /** One look from a place to a thing, kept until the next one. */
    private static final class Sight {
        private final Land land;
        private int way;
        private int slope;
        private boolean atStar;
        private int fromX;
        private int fromY;
        private int eye;
        private int dx;
        private int dy;
        private int rise;

        Sight(Land land) {
            this.land = land;
        }

        /** Whether there is something to look at: there and lit, be it hidden or not. */
        boolean look(Thing thing, int place, int minute) {
            atStar = thing.kind == STAR;
            if (atStar) {
                way = Math.floorMod(thing.way + Math.floorDiv(thing.turn * minute, 8), WAYS);
                slope = thing.slope;
                return true;
            }
            if (!thing.isThere(minute, land) || !thing.isLit(minute)) {
                return false;
            }
            fromX = place / SIDE;
            fromY = place % SIDE;
            eye = land.groundAt(fromX, fromY) + 1;
            dx = thing.xIn(minute) - fromX;
            dy = thing.yIn(minute) - fromY;
            rise = thing.zIn(minute, land) - eye;
            way = wayOf(dx, dy);
            slope = slopeOf(rise, Math.abs(dx) + Math.abs(dy));
            return true;
        }

        /** The hill that hides what was looked at last. */
        int hidingHill() {
            if (atStar) {
                return NONE;
            }
            boolean endsAbove = eye + rise >= land.highest;
            for (int k = 1; k < STEPS; k++) {
                int line = eye + (rise * k >> STEP_BITS);
                // Between two heights that no hill is above no hill comes above the line.
                if (endsAbove && line >= land.highest) {
                    return NONE;
                }
                int x = fromX + (dx * k >> STEP_BITS);
                int y = fromY + (dy * k >> STEP_BITS);
                if (land.groundAt(x, y) > line) {
                    return land.makerAt(x, y);
                }
            }
            return NONE;
        }

        boolean shows(Thing thing, int place, int minute) {
            return look(thing, place, minute) && hidingHill() == NONE;
        }
    }

    /** What a seer told, and what was found of it, as of the change that is named with it. */
    private static final class Telling {
        private int seer;
        private int first;
        private int last;
        private int firstWay;
        private int firstSlope;
        private int lastWay;
        private int lastSlope;
        private int lights;
        private int hull;
        private int fitting;
        private int fittingOf;
        private int askCouples;
        private int askMinute;
        private int askedOf;

        int part(int what) {
            switch (what) {
                case 0:
                    return seer;
                case 1:
                    return first;
                case 2:
                    return last;
                case 3:
                    return firstWay;
                case 4:
                    return firstSlope;
                case 5:
                    return lastWay;
                case 6:
                    return lastSlope;
                case 7:
                    return lights;
                case 8:
                    return hull;
                default:
                    return NONE;
            }
        }
    }

    /** The places where two tellings cross. */
    private static final class Crossing {
        private int places;
        private int heights;
        private int leastX;
        private int greatestX;
        private int leastY;
        private int greatestY;

        void clear() {
            places = 0;
            heights = 0;
            leastX = SIDE;
            greatestX = NONE;
            leastY = SIDE;
            greatestY = NONE;
        }

        void add(int place, boolean atHeight) {
            places++;
            heights += atHeight ? 1 : 0;
            leastX = Math.min(leastX, place / SIDE);
            greatestX = Math.max(greatestX, place / SIDE);
            leastY = Math.min(leastY, place % SIDE);
            greatestY = Math.max(greatestY, place % SIDE);
        }

        int part(int what) {
            if (places == 0) {
                return NONE;
            }
            switch (what) {
                case 0:
                    return places;
                case 1:
                    return heights;
                case 2:
                    return leastX;
                case 3:
                    return greatestX;
                case 4:
                    return leastY;
                case 5:
                    return greatestY;
                default:
                    return NONE;
            }
        }
    }

    /** Rules as they were read: each sum and condition as tokens with the signs behind what they join. */
    private static final class Rules {
        private final int[] codes = new int[MOST_BYTES];
        private int codeCount;
        private boolean hasGrow;
        private int growFrom;
        private int growTo;
        private int clauses;
        private final int[] clauseKinds = new int[MOST_CLAUSES];
        private final int[] clauseFroms = new int[MOST_CLAUSES];
        private final int[] clauseTos = new int[MOST_CLAUSES];
        // A sum and a product may wait at each depth of brackets, a comparison and an 'and' outside.
        private final int[] stack = new int[2 * MOST_BRACKETS + 8];

        void clear() {
            codeCount = 0;
            hasGrow = false;
            clauses = 0;
        }

        void emit(int code) {
            if (codeCount < MOST_BYTES) {
                codes[codeCount] = code;
                codeCount++;
            }
        }

        void setGrow(int from) {
            hasGrow = true;
            growFrom = from;
            growTo = codeCount;
        }

        void addClause(int kind, int from) {
            if (clauses < MOST_CLAUSES) {
                clauseKinds[clauses] = kind;
                clauseFroms[clauses] = from;
                clauseTos[clauses] = codeCount;
                clauses++;
            }
        }

        int firstHolding(int[] values) {
            for (int i = 0; i < clauses; i++) {
                if (valueOf(clauseFroms[i], clauseTos[i], values) == 1) {
                    return i;
                }
            }
            return NONE;
        }

        /** The worth of codes; of a condition 1 if it holds, else 0. */
        int valueOf(int from, int to, int[] values) {
            int top = 0;
            for (int i = from; i < to && i < MOST_BYTES; i++) {
                int code = codes[i];
                int value = code - FIRST_VALUE;
                if (code > TOP_NUMBER && (value < 0 || value >= VALUES)) {
                    if (top < 2) {
                        return 0;
                    }
                    top -= 2;
                    value = joinedBy(code, stack[top], stack[top + 1]);
                } else {
                    value = code > TOP_NUMBER ? values[value] : code;
                }
                if (top >= stack.length) {
                    return 0;
                }
                stack[top] = value;
                top++;
            }
            return top == 1 ? stack[0] : 0;
        }

        private static int joinedBy(int code, int one, int other) {
            switch (code) {
                case PLUS:
                    return bounded((long) one + other);
                case MINUS:
                    return bounded((long) one - other);
                case TIMES:
                    return bounded((long) one * other);
                case LESS:
                    return one < other ? 1 : 0;
                case EQUAL:
                    return one == other ? 1 : 0;
                default:
                    return one & other;
            }
        }

        private static int bounded(long n) {
            return (int) Math.max(-1000000L, Math.min(n, 1000000L));
        }
    }

    /** The text of rules, cut into tokens and read. */
    private static final class Reader {
        private final int[] text = new int[MOST_BYTES];
        private int length;
        private final int[] tokens = new int[MOST_BYTES + 1];
        private final int[] starts = new int[MOST_BYTES + 1];
        private int tokenCount;
        // The token that is looked at; where reading fails, it stays on the one that can't stand there.
        private int next;

        void append(int fourBytes) {
            for (int shift = 24; shift >= 0; shift -= 8) {
                if (length < MOST_BYTES) {
                    text[length] = fourBytes >> shift & 255;
                    length++;
                }
            }
        }

        /** Reads the text into rules: the fault. */
        int judge(Rules rules) {
            split();
            rules.clear();
            next = 0;
            boolean good = token() != TEXT_END;
            for (int n = 0; n < MOST_BYTES && good && token() != TEXT_END; n++) {
                good = readLine(rules);
            }
            return good ? NONE : faultPlace();
        }

        private int faultPlace() {
            return next < tokenCount ? starts[next] : length;
        }

        private void split() {
            tokenCount = 0;
            int from = 0;
            // Each round passes one byte at least.
            for (int round = 0; round < MOST_BYTES && from < length; round++) {
                int to = tokenEnd(from);
                if (text[from] != ' ' && text[from] != '\n') {
                    tokens[tokenCount] = tokenOf(from, to);
                    starts[tokenCount] = from;
                    tokenCount++;
                }
                from = to;
            }
            tokens[tokenCount] = TEXT_END;
            starts[tokenCount] = length;
            tokenCount++;
        }

        private int tokenEnd(int from) {
            boolean word = isLetter(text[from]);
            if (!word && !isDigit(text[from])) {
                return from + 1;
            }
            int to = from + 1;
            while (to < length && (word ? isLetter(text[to]) : isDigit(text[to]))) {
                to++;
            }
            return to;
        }

        private static boolean isLetter(int c) {
            return c >= 'a' && c <= 'z';
        }

        private static boolean isDigit(int c) {
            return c >= '0' && c <= '9';
        }

        private int tokenOf(int from, int to) {
            if (isLetter(text[from])) {
                return wordOf(from, to);
            }
            if (isDigit(text[from])) {
                return numberOf(from, to);
            }
            return SIGNS.indexOf((char) text[from]) >= 0 ? FIRST_SIGN + text[from] : NO_TOKEN;
        }

        private int numberOf(int from, int to) {
            int number = 0;
            for (int i = from; i < to; i++) {
                number = Math.min(number * 10 + text[i] - '0', TOP_NUMBER + 1);
            }
            return number <= TOP_NUMBER ? number : NO_TOKEN;
        }

        private int wordOf(int from, int to) {
            int word = FIRST_WORD;
            int i = from;
            boolean same = true;
            for (int p = 0; p < WORDS.length(); p++) {
                char c = WORDS.charAt(p);
                if (c == ' ') {
                    if (same && i == to) {
                        return word;
                    }
                    word++;
                    i = from;
                    same = true;
                } else {
                    same = same && i < to && text[i] == c;
                    i++;
                }
            }
            return NO_TOKEN;
        }

        private int token() {
            return next < tokenCount ? tokens[next] : TEXT_END;
        }

        private boolean take(int token) {
            if (next >= tokenCount || tokens[next] != token) {
                return false;
            }
            next++;
            return true;
        }

        private boolean readLine(Rules rules) {
            int from = rules.codeCount;
            if (token() == GROW && !rules.hasGrow) {
                next++;
                if (!readSum(rules, 0)) {
                    return false;
                }
                rules.setGrow(from);
                return take(STOP);
            }
            if (token() != SAY || rules.clauses >= MOST_CLAUSES) {
                return false;
            }
            next++;
            int kind = token() - FIRST_KIND;
            if (kind < 0 || kind >= KINDS) {
                return false;
            }
            next++;
            if (!take(IF) || !readCondition(rules)) {
                return false;
            }
            rules.addClause(kind, from);
            return take(STOP);
        }

        private boolean readCondition(Rules rules) {
            for (int n = 0; n < MOST_BYTES; n++) {
                if (!readSum(rules, 0)) {
                    return false;
                }
                int sign = token();
                if (sign != LESS && sign != EQUAL) {
                    return false;
                }
                next++;
                if (!readSum(rules, 0)) {
                    return false;
                }
                rules.emit(sign);
                if (n > 0) {
                    rules.emit(AND);
                }
                if (!take(AND)) {
                    return true;
                }
            }
            return false;
        }

        private boolean readSum(Rules rules, int depth) {
            if (!readProduct(rules, depth)) {
                return false;
            }
            for (int n = 0; n < MOST_BYTES; n++) {
                int sign = token();
                if (sign != PLUS && sign != MINUS) {
                    return true;
                }
                next++;
                if (!readProduct(rules, depth)) {
                    return false;
                }
                rules.emit(sign);
            }
            return false;
        }

        private boolean readProduct(Rules rules, int depth) {
            if (!readFactor(rules, depth)) {
                return false;
            }
            for (int n = 0; n < MOST_BYTES; n++) {
                if (!take(TIMES)) {
                    return true;
                }
                if (!readFactor(rules, depth)) {
                    return false;
                }
                rules.emit(TIMES);
            }
            return false;
        }

        private boolean readFactor(Rules rules, int depth) {
            int token = token();
            if (token <= TOP_NUMBER || token >= FIRST_VALUE && token < FIRST_VALUE + VALUES) {
                next++;
                rules.emit(token);
                return true;
            }
            if (token != OPEN || depth >= MOST_BRACKETS) {
                return false;
            }
            next++;
            return readSum(rules, depth + 1) && take(CLOSE);
        }
    }
}
