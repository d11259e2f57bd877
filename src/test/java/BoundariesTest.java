/**
 * Each sentence of the document that names a boundary, promise by promise: what lies just on this side of it and just
 * on the other, what is with nothing there yet, with everything full, and behind a wrap-around. What arguments are
 * refused, and that a refused call leaves all as it was, is RefusalsTest's.
 */
public final class BoundariesTest {
  private static final int NONE = MarshLights.NONE;
  private static final int VOID = MarshLights.VOID;
  private static final int STILL = 2020;

  private static int promise;
  private static String sentence = "";
  private static int wrong;
  private static int looked;

  private static void says(int number, String words) {
    promise = number;
    sentence = words;
  }

  private static void due(long got, long want, Object... of) {
    looked++;
    if (got == want) return;
    wrong++;
    System.out.println("promise " + promise + ", \"" + sentence + "\" " + java.util.Arrays.toString(of) + ": answered "
        + got + ", due is " + want);
  }

  private static void due(boolean got, boolean want, Object... of) { due(got ? 1 : 0, want ? 1 : 0, of); }

  private static int p(int x, int y) { return x * 64 + y; }

  private static int speed(int dx, int dy) { return (dx + 20) * 100 + dy + 20; }

  private static MarshLights seers(int... places) {
    MarshLights m = new MarshLights();
    for (int place : places) m.seer(place);
    return m;
  }

  private static int point(MarshLights m, int place, int z) { return m.flies(1, 239, place, z, STILL); }

  /** A thing of the kind, there in every minute, at height 9; a star has slope 9. */
  private static int thing(MarshLights m, int kind, int place) {
    if (kind == 0) return m.star(9, 9, 0);
    if (kind == 2) return m.flare(239, place, 9, 0);
    return kind == 3 ? m.lamp(place, 9, 1, 0) : m.flies(kind, 239, place, 9, STILL);
  }

  private static boolean hill(MarshLights m, int x, int y, int height) {
    return m.hill(p(x, y), p(x, y), height) != NONE;
  }

  private static int faultOf(String text) {
    MarshLights m = new MarshLights();
    return Twins.write(m, text) ? m.fault() : -99;
  }

  private static void fault(String text, int place) { due(faultOf(text), place, text); }

  private static MarshLights ruled(String text) {
    MarshLights m = new MarshLights();
    due(Twins.rule(m, text), true, text);
    return m;
  }

  private static int growing(String sum, int lights, int hull, int days, int papers) {
    return ruled("grow " + sum + ";").grown(lights, hull, days, papers);
  }

  public static void main(String[] args) {
    newObject();
    lastCall();
    places();
    hills();
    seers();
    stars();
    flights();
    flares();
    lamps();
    ground();
    ways();
    slopes();
    hidden();
    hidingHill();
    shown();
    told();
    undone();
    off();
    fitting();
    left();
    fewest();
    joined();
    crossWays();
    crossPlaces();
    crossHeights();
    out();
    outs();
    size();
    hulls();
    askWays();
    askMinutes();
    text();
    tokens();
    numbers();
    brackets();
    lines();
    lineParts();
    rulesInPlace();
    bounds();
    clauses();
    hasty();
    grown();
    before();
    drawMinutes();
    drawWays();
    drawFull();
    drawHidden();
    lots();
    count();
    System.out.println(looked + " answers, " + wrong + " wrong");
    if (wrong != 0) System.exit(1);
  }

  // ---- 1: a new object ----

  private static void newObject() {
    says(1, "No HILLS, SEERS, THINGS, TELLINGS, RULES.");
    MarshLights m = new MarshLights();
    int[] counts = {0, 0, 0, 0, 0, 8, 20, 0};
    for (int i = 0; i < 8; i++) due(m.count(i), counts[i], "count", i);
    for (int place = 0; place < 4096; place += 65) due(m.ground(place), 0, "ground", place);
    for (int what = 0; what < 4; what++) {
      due(m.at(0, 0, what), VOID, "at", what);
      due(m.seen(0, 0, 0, what), VOID, "seen", what);
    }
    due(m.undo(), NONE, "undo");
    due(m.telling(0, 0), NONE, "telling");
    due(m.fits(0, NONE), NONE, "fits");
    due(m.left(NONE), 0, "left");
    due(m.left(0), NONE, "left");
    due(m.fewest(), 0, "fewest");
    due(m.joined(0, 1), NONE, "joined");
    due(m.cross(0, 1, 0), NONE, "cross");
    due(m.out(0, 0), NONE, "out");
    due(m.outs(0, 1, 1, 1), NONE, "outs");
    due(m.size(0, 0, 1, 1), NONE, "size");
    due(m.hulls(1, 0), 0, "hulls");
    due(m.hulls(1, 1), 0, "hulls");
    for (int what = 0; what < 3; what++) due(m.ask(what), NONE, "ask", what);
    due(m.end(0), true, "end");
    due(m.end(1), false, "end");
    due(m.fault(), 0, "fault");
    due(m.rules(), NONE, "rules");
    due(m.office(0, 0, 0, 0), NONE, "office");
    due(m.grown(9, 1, 99, 99), 9, "grown");
    due(m.before(9, 1, 99, 99), 256, "before");
    due(m.draw(0, 1), NONE, "draw");
    due(m.hill(0, 0, 1), 0, "hill");
    due(m.seer(0), 0, "seer");
    due(m.star(0, 0, 0), 0, "star");
    due(m.tell(0, 0, 0, 0, 1), 0, "tell");
    MarshLights other = new MarshLights();
    for (int i = 0; i < 8; i++) due(other.count(i), counts[i], "another one", i);
    due(other.ground(0), 0, "another one");
  }

  private static void lastCall() {
    says(1, "An object is used for at most 512 calls after it has been made");
    MarshLights m = new MarshLights();
    m.hill(0, 4095, 60);
    m.seer(0);
    for (int i = 0; i < 508; i++) m.ground(i);
    m.seer(1);
    due(m.count(1), 2, "the 512th call");
  }

  // ---- 2, 8: hills and ground ----

  private static void places() {
    says(2, "PLACES are x * 64 + y, x and y 0 .. 63.");
    int[] corners = {p(0, 0), p(0, 63), p(63, 0), p(63, 63)};
    int[] besides = {p(1, 0), p(1, 63), p(62, 0), p(62, 63), p(0, 1), p(0, 62), p(63, 1), p(63, 62)};
    for (int i = 0; i < 4; i++) {
      MarshLights m = new MarshLights();
      m.hill(corners[i], corners[i], 7);
      for (int j = 0; j < 4; j++) due(m.ground(corners[j]), i == j ? 7 : 0, "corner", i, j);
      for (int place : besides) due(m.ground(place), 0, "beside corner", i, place);
    }
    MarshLights m = new MarshLights();
    m.hill(p(5, 60), p(9, 63), 7);
    due(m.ground(p(6, 0)), 0, "no wrap to the next x");
    due(m.ground(p(10, 0)), 0, "no wrap to the next x");
    due(m.ground(p(9, 63)), 7, "the last y");
    for (int kind = 1; kind < 6; kind++) {
      MarshLights n = seers(p(63, 63));
      for (int place : corners) {
        int thing = thing(n, kind, place);
        due(n.at(thing, 0, 0), place / 64, "x", place);
        due(n.at(thing, 0, 1), place % 64, "y", place);
      }
    }
  }

  private static void hills() {
    says(2, "HILLS (at most 8, numbers as they come)");
    MarshLights m = new MarshLights();
    for (int i = 0; i < 8; i++) {
      due(m.hill(p(i, i), p(i, i), 4096), NONE, "refused between");
      due(m.hill(p(i, i), p(i, i), i == 0 ? 1 : i == 1 ? 60 : 10), i, "number");
    }
    due(m.hill(p(8, 8), p(8, 8), 60), NONE, "the ninth");
    due(m.ground(p(8, 8)), 0, "no ninth hill");
    due(m.count(0), 8, "count");
    due(m.ground(p(0, 0)), 1, "height 1");
    due(m.ground(p(1, 1)), 60, "height 60");
    says(2, "the greatest height of HILLS that have it within or on their sides");
    int[][] corners = {{10, 20, 14, 26}, {14, 26, 10, 20}, {10, 26, 14, 20}, {14, 20, 10, 26}};
    for (int[] c : corners) {
      MarshLights n = new MarshLights();
      n.hill(p(c[0], c[1]), p(c[2], c[3]), 33);
      for (int x = 9; x <= 15; x++) {
        for (int y = 19; y <= 27; y++) {
          boolean in = x >= 10 && x <= 14 && y >= 20 && y <= 26;
          due(n.ground(p(x, y)), in ? 33 : 0, "place", x, y);
        }
      }
    }
    int[][] sides = {{0, 0, 63, 0}, {63, 0, 0, 0}, {0, 63, 63, 63}, {63, 63, 0, 63}, {0, 0, 0, 63}, {0, 63, 0, 0},
        {63, 0, 63, 63}, {63, 63, 63, 0}};
    for (int[] c : sides) {
      MarshLights n = new MarshLights();
      n.hill(p(c[0], c[1]), p(c[2], c[3]), 33);
      for (int i = 0; i < 64; i++) {
        due(n.ground(p(0, i)), c[0] == 0 && c[2] == 0 || c[1] == i && c[3] == i ? 33 : 0, "least x", i, c[0], c[1]);
        due(n.ground(p(63, i)), c[0] == 63 && c[2] == 63 || c[1] == i && c[3] == i ? 33 : 0, "greatest x", i, c[0], c[1]);
        due(n.ground(p(i, 0)), c[1] == 0 && c[3] == 0 || c[0] == i && c[2] == i ? 33 : 0, "least y", i, c[0], c[1]);
        due(n.ground(p(i, 63)), c[1] == 63 && c[3] == 63 || c[0] == i && c[2] == i ? 33 : 0, "greatest y", i, c[0], c[1]);
      }
    }
    MarshLights whole = new MarshLights();
    whole.hill(p(63, 0), p(0, 63), 5);
    for (int place = 0; place < 4096; place += 13) due(whole.ground(place), 5, "a hill of the whole map", place);
  }

  private static void ground() {
    says(8, "the greatest height of HILLS that have it within or on their sides, 0 without");
    MarshLights m = new MarshLights();
    m.hill(p(10, 10), p(20, 20), 30);
    m.hill(p(15, 15), p(25, 25), 29);
    m.hill(p(17, 17), p(17, 17), 31);
    m.hill(p(18, 18), p(18, 18), 30);
    due(m.ground(p(16, 16)), 30, "the first is greater by 1");
    due(m.ground(p(17, 17)), 31, "the last is greater by 1");
    due(m.ground(p(18, 18)), 30, "both alike");
    due(m.ground(p(21, 21)), 29, "the second alone");
    due(m.ground(p(9, 10)), 0, "without");
    says(8, "NONE if there is no such PLACE.");
    due(m.ground(-1), NONE);
    due(m.ground(0), 0);
    due(m.ground(4095), 0);
    due(m.ground(4096), NONE);
  }

  // ---- 3: seers ----

  private static void seers() {
    says(3, "SEERS (at most 20, numbers as they come)");
    MarshLights m = new MarshLights();
    for (int i = 0; i < 20; i++) {
      due(m.seer(4096), NONE, "refused between");
      due(m.seer(p(i, 0)), i, "number");
    }
    due(m.seer(0), NONE, "the 21st");
    due(m.count(1), 20, "count");
    m.lamp(p(30, 0), 1, 1, 0);
    due(m.seen(0, 19, 0, 0), 0, "the last one");
    due(m.seen(0, 20, 0, 0), VOID, "no 21st");
    says(3, "EYE is GROUND and 1, of the HILLS that are there");
    MarshLights e = seers(p(5, 5));
    point(e, p(5, 7), 1);
    point(e, p(5, 7), 2);
    due(e.seen(0, 0, 0, 1), 0, "eye 1 on the plain");
    due(e.seen(1, 0, 0, 1), 50, "one above it");
    hill(e, 5, 5, 1);
    due(e.seen(0, 0, 0, 1), -50, "eye 2 on a hill that came behind");
    due(e.seen(1, 0, 0, 1), 0, "as high as it");
    hill(e, 5, 5, 60);
    point(e, p(5, 7), 61);
    due(e.seen(2, 0, 0, 1), 0, "eye 61");
  }

  // ---- 4 to 7, 9: things ----

  private static void stars() {
    says(4, "THINGS (at most 12, numbers as they come)");
    for (int kind = 0; kind < 6; kind++) {
      MarshLights m = new MarshLights();
      for (int i = 0; i < 12; i++) {
        due(m.star(256, 0, 0), NONE, "refused between");
        due(thing(m, (kind + i + 1) % 6, 0), i, "number");
      }
      for (int other = 0; other < 6; other++) due(thing(m, other, 0), NONE, "the 13th", other);
      due(m.count(2), 12, "count");
      due(m.at(11, 0, 3), kind, "the 12th stays");
      due(m.at(12, 0, 3), VOID, "no 13th");
    }
    says(4, "its WAY turns on by turn * MINUTE / 8 (floor; rest by 256)");
    MarshLights m = seers(0);
    m.star(255, 0, 8);
    m.star(0, 999, -8);
    m.star(0, 0, 1);
    m.star(0, 0, -1);
    m.star(255, 0, 9);
    m.star(0, 0, -9);
    m.star(77, 5, 0);
    due(m.seen(0, 0, 0, 0), 255, "as it was");
    due(m.seen(0, 0, 1, 0), 0, "over 255");
    due(m.seen(1, 0, 0, 0), 0, "as it was");
    due(m.seen(1, 0, 1, 0), 255, "below 0");
    due(m.seen(2, 0, 7, 0), 0, "ahead of an eighth");
    due(m.seen(2, 0, 8, 0), 1, "at an eighth");
    due(m.seen(3, 0, 1, 0), 255, "floor");
    due(m.seen(3, 0, 8, 0), 255, "just one back");
    due(m.seen(3, 0, 9, 0), 254, "floor");
    due(m.seen(4, 0, 239, 0), 11, "the greatest turn at last");
    due(m.seen(5, 0, 239, 0), 243, "the least turn at last");
    due(m.seen(6, 0, 239, 0), 77, "no turn");
    says(4, "A STAR has its own WAY and SLOPE (0 .. 999), from everywhere");
    due(m.seen(0, 0, 0, 1), 0, "least slope");
    due(m.seen(1, 0, 0, 1), 999, "greatest slope");
    m.seer(4095);
    m.hill(0, 4095, 60);
    due(m.seen(6, 1, 0, 0), 77, "from elsewhere");
    due(m.seen(6, 1, 0, 1), 5, "from a hill");
  }

  private static void flights() {
    says(5, "are there from a MINUTE to another one");
    int[] kinds = {1, 4, 5};
    for (int kind : kinds) {
      MarshLights m = seers(0);
      m.flies(kind, 10020, p(30, 30), 50, STILL);
      m.flies(kind, 15015, p(30, 30), 50, STILL);
      m.flies(kind, 239, p(30, 30), 0, STILL);
      m.flies(kind, 239239, p(30, 30), 255, STILL);
      int[][] there = {{10, 20}, {15, 15}, {0, 239}, {239, 239}};
      for (int thing = 0; thing < 4; thing++) {
        for (int minute = 8; minute < 22; minute++) {
          boolean is = minute >= there[thing][0] && minute <= there[thing][1];
          due(m.at(thing, minute, 0), is ? 30 : VOID, kind, thing, minute);
          due(m.seen(thing, 0, minute, 2), is ? 1 : 0, kind, thing, minute);
        }
      }
      due(m.at(2, 0, 2), 0, "z 0 in minute 0");
      due(m.at(2, 239, 2), 0, "z 0 in minute 239");
      due(m.at(3, 238, 2), VOID, "ahead of 239");
      due(m.at(3, 239, 2), 255, "z 255 in minute 239");
    }
    says(5, "x + dx * t / d and y + dy * t / d (floor; d is 4, 16, 1; it may be outside of the map)");
    int[] divisors = {4, 16, 1};
    for (int i = 0; i < 3; i++) {
      int d = divisors[i];
      MarshLights m = new MarshLights();
      m.flies(kinds[i], 10239, p(0, 63), 50, speed(-1, 1));
      int[] later = {0, 1, d - 1, d, d + 1, 2 * d, 229};
      for (int t : later) {
        due(m.at(0, 10 + t, 0), Math.floorDiv(-t, d), "x", kinds[i], t);
        due(m.at(0, 10 + t, 1), 63 + t / d, "y", kinds[i], t);
        due(m.at(0, 10 + t, 2), 50, "z as it was");
      }
      m.flies(kinds[i], 239, p(0, 0), 50, speed(20, -20));
      m.flies(kinds[i], 239, p(0, 0), 50, speed(-20, 20));
      due(m.at(1, 239, 0), 4780 / d, "greatest dx");
      due(m.at(1, 239, 1), Math.floorDiv(-4780, d), "least dy");
      due(m.at(2, 239, 0), Math.floorDiv(-4780, d), "least dx");
      due(m.at(2, 239, 1), 4780 / d, "greatest dy");
    }
    says(9, "VOID for others, if there are none such, or it is not there then (0, 1, 2; also of a STAR).");
    MarshLights m = new MarshLights();
    m.star(0, 0, 0);
    m.flies(1, 10020, p(1, 2), 3, STILL);
    for (int what = 0; what < 3; what++) {
      due(m.at(0, 0, what), VOID, "a star", what);
      due(m.at(1, 9, what), VOID, "ahead", what);
      due(m.at(1, 10, what), what + 1, "there", what);
      due(m.at(1, 21, what), VOID, "behind", what);
    }
    due(m.at(0, 0, 3), 0, "a star's kind");
    due(m.at(1, 9, 3), 1, "its kind, where it isn't there");
    due(m.at(1, 21, 3), 1, "its kind, where it isn't there");
  }

  private static void flares() {
    says(6, "z less fall * t; as long as that is above the GROUND there");
    MarshLights m = seers(p(0, 0));
    hill(m, 30, 30, 10);
    m.flare(5050, p(30, 30), 40, 10);
    m.flare(5050, p(30, 30), 41, 10);
    m.flare(5050, p(30, 30), 11, 0);
    m.flare(5050, p(30, 30), 10, 0);
    m.flare(5050, p(31, 30), 1, 1);
    m.flare(5050, p(31, 30), 0, 0);
    m.flare(5050, p(31, 30), 255, 20);
    m.flare(5007, p(31, 30), 255, 20);
    int[] lasts = {7, 8, 50, 4, 5, 4, 17, 7};
    for (int thing = 0; thing < 8; thing++) {
      for (int minute = 3; minute < 52; minute++) {
        boolean is = minute >= 5 && minute <= lasts[thing];
        due(m.at(thing, minute, 0) != VOID, is, thing, minute);
      }
    }
    due(m.at(1, 8, 2), 11, "one above the ground");
    due(m.at(6, 17, 2), 15, "greatest fall");
    hill(m, 31, 30, 15);
    due(m.at(6, 17, 2), VOID, "a hill that came behind");
    due(m.at(6, 16, 2), 35, "above that hill");
    says(6, "A FLARE (fall 0 .. 20).");
    due(m.at(2, 50, 2), 11, "no fall");
    due(m.at(0, 0, 3), 2, "its kind");
  }

  private static void lamps() {
    says(7, "lit in MINUTES with a rest by its period alone");
    int[][] lamps = {{1, 0}, {2, 0}, {2, 1}, {30, 0}, {30, 29}, {7, 3}};
    for (int[] lamp : lamps) {
      MarshLights m = seers(p(0, 0));
      m.lamp(p(0, 9), 1, lamp[0], lamp[1]);
      for (int minute = 0; minute < 240; minute++) {
        due(m.seen(0, 0, minute, 2), minute % lamp[0] == lamp[1] ? 1 : 0, "period", lamp[0], lamp[1], minute);
      }
      due(m.at(0, 0, 2), 1, "there, lit or not");
      due(m.at(0, 239, 2), 1, "there, lit or not");
    }
    says(7, "always at its PLACE, at GROUND and its height");
    MarshLights m = new MarshLights();
    m.lamp(p(3, 4), 0, 1, 0);
    m.lamp(p(3, 4), 60, 1, 0);
    due(m.at(0, 0, 2), 0, "on the plain");
    due(m.at(1, 239, 2), 60, "on the plain");
    hill(m, 3, 4, 60);
    due(m.at(0, 0, 2), 60, "on a hill that came behind");
    due(m.at(1, 239, 2), 120, "on a hill that came behind");
    due(m.at(1, 239, 0), 3, "x");
    due(m.at(1, 239, 1), 4, "y");
  }

  // ---- 10: seen ----

  private static void ways() {
    says(10, "The WAY from a PLACE to a point that lies dx, dy from it");
    int[][] ways = {{0, 0, 0}, {1, 0, 0}, {20, 0, 0}, {20, 1, 3}, {1, 1, 32}, {1, 20, 60}, {0, 1, 64}, {0, 20, 64},
        {-1, 20, 67}, {-1, 1, 96}, {-20, 1, 124}, {-1, 0, 128}, {-20, 0, 128}, {-20, -1, 131}, {-1, -1, 160},
        {-1, -20, 188}, {0, -1, 192}, {0, -20, 192}, {1, -20, 195}, {1, -1, 224}, {20, -1, 252}, {2, 1, 21},
        {-1, 2, 85}, {-2, -1, 149}, {1, -2, 213}};
    for (int[] w : ways) {
      MarshLights m = seers(p(30, 30));
      m.flies(5, 1, p(30, 30), 5, speed(w[0], w[1]));
      due(m.seen(0, 0, 1, 0), w[2], "dx, dy", w[0], w[1]);
    }
    MarshLights m = seers(p(0, 1), p(63, 62), p(62, 0), p(1, 63));
    point(m, p(63, 0), 5);
    point(m, p(0, 63), 5);
    point(m, p(63, 63), 5);
    point(m, p(0, 0), 5);
    due(m.seen(0, 0, 0, 0), 255, "the greatest way");
    due(m.seen(1, 1, 0, 0), 127, "the greatest way of the second quarter");
    due(m.seen(2, 2, 0, 0), 63, "the greatest way of the first quarter");
    due(m.seen(3, 3, 0, 0), 191, "the greatest way of the third quarter");
  }

  private static void slopes() {
    says(10, "100 * (z of it less EYE) / s (floor), brought to -999 .. 999");
    int[][] up = {{1, 0, -100}, {1, 1, 0}, {1, 2, 100}, {1, 10, 900}, {1, 11, 999}, {1, 12, 999}, {1, 255, 999},
        {25, 250, 996}, {26, 255, 976}, {3, 0, -34}, {3, 2, 33}, {7, 0, -15}, {63, 0, -2}};
    for (int[] u : up) {
      MarshLights m = seers(p(0, 0));
      point(m, p(u[0], 0), u[1]);
      due(m.seen(0, 0, 0, 1), u[2], "s, z", u[0], u[1]);
    }
    int[][] down = {{1, 0, -999}, {5, 11, -999}, {5, 12, -980}, {6, 0, -999}, {6, 1, -999}, {6, 2, -984}, {7, 0, -872},
        {6, 61, 0}, {6, 60, -17}};
    for (int[] d : down) {
      MarshLights m = seers(p(0, 0));
      hill(m, 0, 0, 60);
      point(m, p(d[0], 0), d[1]);
      due(m.seen(0, 0, 0, 1), d[2], "s, z, from 61", d[0], d[1]);
    }
    says(10, "With s = 0: WAY 0, SLOPE 999.");
    int[] heights = {0, 1, 30, 255};
    for (int z : heights) {
      MarshLights m = seers(p(9, 9));
      hill(m, 9, 9, 30);
      point(m, p(9, 9), z);
      due(m.seen(0, 0, 0, 0), 0, "way", z);
      due(m.seen(0, 0, 0, 1), 999, "slope", z);
    }
  }

  private static void hidden() {
    says(10, "for some k of 1 .. 15 the GROUND at x + dx * k / 16, y + dy * k / 16");
    for (int k = 0; k <= 16; k++) {
      for (int side = 0; side < 4; side++) {
        int[] to = side == 0 ? new int[] {48, 32} : side == 1 ? new int[] {32, 48} : side == 2 ? new int[] {16, 32}
            : new int[] {32, 16};
        MarshLights m = seers(p(32, 32));
        // On the seer's own place a hill lifts the eye above itself.
        hill(m, 32 + (to[0] - 32) * k / 16, 32 + (to[1] - 32) * k / 16, 9);
        point(m, p(to[0], to[1]), k == 0 ? 1 : 2);
        due(m.seen(0, 0, 0, 3), k == 0 || k == 16 ? NONE : 0, "step, side", k, side);
      }
    }
    says(10, "is above EYE + (z less EYE) * k / 16 (floor)");
    for (int k = 1; k < 16; k++) {
      // Up from eye 1 to 33: two more by each step; on the way down from eye 51 to 40: 11 / 16 less by each.
      for (int more = 0; more < 2; more++) {
        MarshLights m = seers(p(0, 0));
        point(m, p(16, 0), 33);
        hill(m, k, 0, 1 + 2 * k + more);
        due(m.seen(0, 0, 0, 2), 1 - more, "up", k);
        MarshLights d = seers(p(0, 0));
        hill(d, 0, 0, 50);
        point(d, p(16, 0), 40);
        hill(d, k, 0, 51 + Math.floorDiv(-11 * k, 16) + more);
        due(d.seen(0, 0, 0, 2), 1 - more, "down", k);
      }
    }
    says(10, "(from the SEER's PLACE, floor)");
    MarshLights w = seers(p(10, 10));
    point(w, p(9, 10), 1);
    point(w, p(11, 10), 1);
    point(w, p(10, 9), 1);
    point(w, p(10, 11), 1);
    hill(w, 9, 10, 5);
    due(w.seen(0, 0, 0, 2), 0, "to the west each step is at the thing's place");
    hill(w, 11, 10, 5);
    due(w.seen(1, 0, 0, 2), 1, "to the east none is");
    hill(w, 10, 9, 5);
    due(w.seen(2, 0, 0, 2), 0, "to the south each is");
    hill(w, 10, 11, 5);
    due(w.seen(3, 0, 0, 2), 1, "to the north none is");
    says(10, "0 without (also outside of the map)");
    int[][] speeds = {{16, 0}, {0, 16}, {16, 16}, {-16, 0}, {0, -16}, {-16, -16}, {16, -16}, {-16, 16}, {0, -16}, {-16, 0},
        {0, 16}, {16, 0}};
    int[][] froms = {{63, 30}, {30, 63}, {63, 63}, {0, 30}, {30, 0}, {0, 0}, {63, 0}, {0, 63}, {0, 0}, {0, 0}, {63, 63},
        {63, 63}};
    for (int i = 0; i < 12; i++) {
      // All places but the seer's are hills, each step is outside: a line from eye 1 down to 0 is above the ground there.
      MarshLights o = seers(p(froms[i][0], froms[i][1]));
      int x = froms[i][0];
      int y = froms[i][1];
      if (x > 0) o.hill(p(0, 0), p(x - 1, 63), 60);
      if (x < 63) o.hill(p(x + 1, 0), p(63, 63), 60);
      if (y > 0) o.hill(p(x, 0), p(x, y - 1), 60);
      if (y < 63) o.hill(p(x, y + 1), p(x, 63), 60);
      o.flies(5, 239, p(x, y), 0, speed(speeds[i][0], speeds[i][1]));
      o.flies(5, 239, p(x, y), 0, speed(-speeds[i][0], -speeds[i][1]));
      due(o.seen(0, 0, 1, 2), 1, "beyond the map there is no hill", i);
      due(o.seen(1, 0, 1, 2), 0, "within it there is", i);
    }
  }

  private static void hidingHill() {
    says(10, "by the least such k's HILL, which is the least one with that height there");
    MarshLights m = seers(p(0, 0));
    point(m, p(16, 0), 1);
    due(m.seen(0, 0, 0, 3), NONE, "not hidden");
    hill(m, 15, 0, 60);
    due(m.seen(0, 0, 0, 3), 0, "step 15");
    hill(m, 14, 0, 2);
    due(m.seen(0, 0, 0, 3), 1, "step 14");
    m.hill(p(3, 0), p(5, 0), 20);
    due(m.seen(0, 0, 0, 3), 2, "step 3");
    m.hill(p(3, 0), p(3, 0), 20);
    due(m.seen(0, 0, 0, 3), 2, "the least of like heights");
    m.hill(p(3, 0), p(3, 0), 19);
    due(m.seen(0, 0, 0, 3), 2, "a lower one");
    m.hill(p(3, 0), p(3, 0), 21);
    due(m.seen(0, 0, 0, 3), 5, "the highest there");
    hill(m, 2, 0, 1);
    due(m.seen(0, 0, 0, 3), 5, "the ground as high as the line");
    hill(m, 2, 0, 2);
    due(m.seen(0, 0, 0, 3), 7, "the last hill");
  }

  private static void shown() {
    says(10, "2 whether it is SHOWN");
    MarshLights m = seers(p(0, 0));
    m.flies(1, 10020, p(16, 0), 1, STILL);
    m.lamp(p(16, 0), 1, 10, 5);
    m.flare(10020, p(16, 0), 2, 1);
    m.star(9, 9, 0);
    int[] minutes = {0, 4, 5, 6, 9, 10, 11, 12, 15, 20, 21, 25};
    for (int minute : minutes) {
      boolean[] is = {minute >= 10 && minute <= 20, minute % 10 == 5, minute == 10 || minute == 11, true};
      for (int thing = 0; thing < 4; thing++) {
        due(m.seen(thing, 0, minute, 2), is[thing] ? 1 : 0, "shown", thing, minute);
        due(m.seen(thing, 0, minute, 0) != VOID, is[thing], "way", thing, minute);
        due(m.seen(thing, 0, minute, 1) != VOID, is[thing], "slope", thing, minute);
        due(m.seen(thing, 0, minute, 3), is[thing] ? NONE : VOID, "hill", thing, minute);
      }
    }
    m.hill(p(8, 0), p(8, 0), 60);
    for (int thing = 0; thing < 4; thing++) {
      int minute = thing == 1 ? 15 : 10;
      due(m.seen(thing, 0, minute, 2), thing == 3 ? 1 : 0, "hidden", thing);
      due(m.seen(thing, 0, minute, 3), thing == 3 ? NONE : 0, "hill", thing);
      due(m.seen(thing, 0, minute, 0) != VOID, true, "the way stays", thing);
      due(m.seen(thing, 0, minute, 1) != VOID, true, "the slope stays", thing);
    }
    says(10, "VOID for others, if there are none such, or (0, 1, 3) it is not there (lit) then.");
    due(m.seen(0, 0, 9, 2), 0, "whether it is shown is answered");
    due(m.seen(1, 0, 4, 2), 0, "whether it is shown is answered");
  }

  // ---- 11 to 14: tellings ----

  private static void told() {
    says(11, "TELLINGS (at most 60, numbers as they come)");
    MarshLights m = seers(0, 1);
    for (int i = 0; i < 60; i++) {
      due(m.tell(2, 0, 0, 0, 1), NONE, "refused between");
      due(m.tell(1, i * 1001, i * 1000, 999 - i, i % 9 + 1), i, "number");
    }
    due(m.tell(0, 0, 0, 0, 1), NONE, "the 61st");
    due(m.count(3), 60, "count");
    due(m.telling(59, 1), 59, "the 60th stays");
    due(m.telling(60, 0), NONE, "no 61st");
    says(14, "0 its SEER, 1 and 2 its MINUTES, 3 WAY and 4 SLOPE at first, 5 and 6 at last, 7 LIGHTS, 8 HULL");
    int[][] tellings = {{0, 0, 0, 0, 0, 0, 0, 1, 0}, {1, 239, 239, 255, 999, 255, 999, 9, 1},
        {1, 0, 239, 255, 0, 0, 999, 1, 1}, {0, 1, 2, 0, 999, 255, 0, 9, 0}, {1, 12, 34, 56, 78, 90, 123, 4, 0}};
    MarshLights n = seers(0, 1);
    for (int[] t : tellings) n.tell(t[0], t[1] * 1000 + t[2], t[3] * 1000 + t[4], t[5] * 1000 + t[6], t[8] * 10 + t[7]);
    for (int i = 0; i < 5; i++) {
      for (int what = 0; what < 9; what++) due(n.telling(i, what), tellings[i][what], "telling", i, what);
      due(n.telling(i, -1), NONE, "others");
      due(n.telling(i, 9), NONE, "others");
    }
  }

  private static void undone() {
    says(12, "The last TELLING is taken back: how many there are; NONE without.");
    MarshLights m = seers(0);
    due(m.undo(), NONE, "without");
    for (int i = 0; i < 60; i++) m.tell(0, i * 1001, 0, 0, 1);
    for (int i = 59; i >= 0; i--) {
      due(m.undo(), i, "how many");
      due(m.telling(i, 1), NONE, "it is gone");
      due(i == 0 ? 0 : m.telling(i - 1, 1), i == 0 ? 0 : i - 1, "the one ahead stays");
    }
    due(m.undo(), NONE, "without again");
    due(m.count(3), 0, "count");
    due(m.tell(0, 7007, 0, 0, 1), 0, "numbers begin anew");
    for (int i = 1; i < 60; i++) m.tell(0, 0, 0, 0, 1);
    due(m.tell(0, 0, 0, 0, 1), NONE, "full again");
    due(m.undo(), 59, "one back");
    due(m.tell(0, 8008, 0, 0, 1), 59, "one more can be told then");
    due(m.telling(59, 1), 8, "it is the new one");
  }

  private static void off() {
    says(13, "OFF are A for WAYS (0 .. 32; 8 at first) and B for SLOPES (0 .. 200; 20 at first)");
    MarshLights m = new MarshLights();
    int[][] all = {{8, 20, 1}, {33, 20, 0}, {8, 201, 0}, {-1, 20, 0}, {8, -1, 0}, {32, 200, 1}, {0, 0, 1}, {32, 0, 1},
        {0, 200, 1}, {33, 201, 0}};
    int a = 8;
    int b = 20;
    for (int[] one : all) {
      due(m.off(one[0], one[1]), one[2] == 1, one[0], one[1]);
      if (one[2] == 1) {
        a = one[0];
        b = one[1];
      }
      due(m.count(5), a, "A");
      due(m.count(6), b, "B");
    }
  }

  // ---- 15 to 17: fits, left, fewest ----

  /** How many things fit a telling that is told and taken back. */
  private static int fit(MarshLights m, int minutes, int w1, int s1, int w2, int s2) {
    int n = m.tell(0, minutes, w1 * 1000 + s1, w2 * 1000 + s2, 1);
    int fit = m.fits(n, NONE);
    m.undo();
    return fit;
  }

  private static void fitting() {
    says(15, "WAYS that are A apart at most (by the shorter way round) and SLOPES that are B apart at most");
    int[][] offs = {{8, 20}, {0, 0}, {1, 1}, {32, 200}};
    int[] ways = {0, 255, 100, 128, 5, 250};
    for (int[] off : offs) {
      for (int way : ways) {
        MarshLights m = seers(0);
        m.star(way, 500, 0);
        m.off(off[0], off[1]);
        for (int d = -1; d <= 1; d += 2) {
          int just = (way + d * off[0]) & 255;
          int beyond = (way + d * (off[0] + 1)) & 255;
          due(fit(m, 0, just, 500, just, 500), 1, "A apart", way, just);
          due(fit(m, 0, beyond, 500, way, 500), 0, "more at first", way, beyond);
          due(fit(m, 0, way, 500, beyond, 500), 0, "more at last", way, beyond);
          due(fit(m, 0, way, 500 + d * off[1], way, 500 + d * off[1]), 1, "B apart", way, off[1]);
          due(fit(m, 0, way, 500 + d * (off[1] + 1), way, 500), 0, "more at first", way, off[1]);
          due(fit(m, 0, way, 500, way, 500 + d * (off[1] + 1)), 0, "more at last", way, off[1]);
        }
        due(fit(m, 0, way ^ 128, 500, way ^ 128, 500), 0, "the other way", way);
      }
    }
    says(15, "if it is SHOWN to the SEER in both MINUTES");
    MarshLights m = seers(p(0, 0));
    m.flies(1, 10020, p(16, 0), 1, STILL);
    int[][] minutes = {{10, 20, 1}, {9, 20, 0}, {10, 21, 0}, {9, 21, 0}, {10, 10, 1}, {20, 20, 1}, {9, 9, 0}, {21, 21, 0}};
    for (int[] n : minutes) due(fit(m, n[0] * 1000 + n[1], 0, 0, 0, 0), n[2], "there", n[0], n[1]);
    m.lamp(p(16, 0), 1, 5, 2);
    due(fit(m, 32047, 0, 0, 0, 0), 1, "lit in both");
    due(fit(m, 32046, 0, 0, 0, 0), 0, "lit at first");
    due(fit(m, 33047, 0, 0, 0, 0), 0, "lit at last");
    due(fit(m, 12017, 0, 0, 0, 0), 2, "both");
    hill(m, 15, 0, 1);
    due(fit(m, 12017, 0, 0, 0, 0), 2, "ground as high as the line");
    hill(m, 15, 0, 2);
    due(fit(m, 12017, 0, 0, 0, 0), 0, "hidden");
    // Behind a hill at 8, 0 in the one minute, off that line in the other.
    for (int way = 0; way < 2; way++) {
      MarshLights h = seers(p(0, 0));
      h.off(32, 200);
      h.flies(5, 10011, p(16, way * 4), 2, speed(0, way == 0 ? 4 : -4));
      due(fit(h, 10011, 5, 5, 5, 5), 1, "shown in both", way);
      hill(h, 8, 0, 9);
      due(h.seen(0, 0, 10, 2), way, "in the first", way);
      due(h.seen(0, 0, 11, 2), 1 - way, "in the second", way);
      due(fit(h, 10011, 5, 5, 5, 5), 0, "hidden in one", way);
      due(fit(h, 10010, 5, 5, 5, 5), way, "the first alone", way);
      due(fit(h, 11011, 5, 5, 5, 5), 1 - way, "the second alone", way);
    }
    MarshLights later = seers(p(0, 0));
    later.tell(0, 0, 0, 0, 1);
    due(later.fits(0, NONE), 0, "nothing there yet");
    point(later, p(16, 0), 1);
    due(later.fits(0, NONE), 1, "a thing that came behind the telling");
    hill(later, 8, 0, 1);
    due(later.fits(0, NONE), 1, "a hill as high as the line");
    hill(later, 8, 0, 2);
    due(later.fits(0, NONE), 0, "a hill that came behind the telling");
    due(later.left(0), 0, "left then");
    // Two changes, one behind the other, count both.
    for (int one = 0; one < 5; one++) {
      for (int other = 0; other < 5; other++) {
        MarshLights two = seers(p(0, 0));
        thing(two, 1, p(16, 0));
        two.tell(0, 0, 1050, 1050, 1);
        due(two.fits(0, NONE), 1, "ahead of the changes");
        change(two, one);
        change(two, other);
        int fit = (one == 0 ? 1 : 0) + (other == 0 ? 1 : 0) + (one == 1 || other == 1 ? 0 : 1);
        if (other == 4 || one == 4 && other != 3) fit = 0;
        due(two.fits(0, NONE), fit, "behind two changes", one, other);
        due(two.left(NONE), fit == 0 ? 1 : 0, "behind two changes", one, other);
      }
    }
    says(15, "How many THINGS FIT (k NONE), or the k-th; NONE if there are none such.");
    MarshLights k = seers(0);
    for (int i = 0; i < 12; i++) k.star(i % 3 == 1 ? 200 : 100, 100, 0);
    k.tell(0, 0, 100100, 100100, 1);
    k.tell(0, 0, 200100, 200100, 1);
    k.tell(0, 0, 50100, 50100, 1);
    int[] which = {0, 2, 3, 5, 6, 8, 9, 11};
    due(k.fits(0, NONE), 8, "how many");
    for (int i = 0; i < 8; i++) due(k.fits(0, i), which[i], "k-th", i);
    due(k.fits(0, 8), NONE, "no ninth");
    due(k.fits(0, -2), NONE, "below NONE");
    due(k.fits(1, NONE), 4, "how many");
    due(k.fits(1, 3), 10, "the fourth");
    due(k.fits(1, 4), NONE, "no fifth");
    due(k.fits(2, NONE), 0, "nothing fits");
    due(k.fits(2, 0), NONE, "no first");
    due(k.fits(3, NONE), NONE, "no such telling");
    due(k.fits(-1, NONE), NONE, "no such telling");
  }

  /** A star that is just 1 off, or a hill in the way to 16, 0, or one beside it, or OFF as it was, or 0. */
  private static void change(MarshLights m, int which) {
    if (which == 0) m.star(0, 50, 0);
    if (which == 1) hill(m, 8, 0, 30);
    if (which == 2) hill(m, 30, 30, 30);
    if (which == 3) m.off(8, 20);
    if (which == 4) m.off(0, 0);
  }

  private static void left() {
    says(16, "How many TELLINGS are LEFT (k NONE), or the k-th; NONE if there is none such.");
    MarshLights m = seers(0);
    due(m.left(NONE), 0, "no telling");
    due(m.left(0), NONE, "no telling");
    m.star(100, 100, 0);
    m.tell(0, 0, 100100, 100100, 1);
    due(m.left(NONE), 0, "none is left");
    due(m.left(0), NONE, "none is left");
    m.tell(0, 0, 108120, 92080, 1);
    m.tell(0, 0, 109100, 100100, 1);
    due(m.left(NONE), 1, "just beyond A");
    due(m.left(0), 2, "which");
    due(m.left(1), NONE, "no second");
    m.undo();
    due(m.left(NONE), 0, "taken back");
    MarshLights all = seers(0);
    for (int i = 0; i < 60; i++) all.tell(0, 0, 0, 0, 1);
    due(all.left(NONE), 60, "all of 60");
    for (int i = 0; i < 60; i++) due(all.left(i), i, "k-th", i);
    due(all.left(60), NONE, "no 61st");
    for (int i = 2; i < 60; i++) m.tell(0, 0, i % 2 * 100000 + 100, i % 2 * 100000 + 100, 1);
    due(m.left(NONE), 29, "of 60");
    due(m.left(0), 2, "the first");
    due(m.left(28), 58, "the last");
    due(m.left(29), NONE, "behind the last");
    due(m.left(-2), NONE, "below NONE");
    m.star(0, 100, 0);
    due(m.left(NONE), 0, "a thing that came fits them");
  }

  private static void fewest() {
    says(17, "FEWEST are THINGS so that of each TELLING that isn't LEFT one of them FITS");
    MarshLights m = seers(0);
    due(m.fewest(), 0, "nothing there");
    m.star(100, 100, 0);
    due(m.fewest(), 0, "no telling");
    m.tell(0, 0, 200100, 200100, 1);
    due(m.fewest(), 0, "one that is left");
    m.tell(0, 0, 100100, 100100, 1);
    due(m.fewest(), 1, "one that isn't");
    says(17, "the fewest, of like ones the least as bits");
    MarshLights l = seers(0);
    int[] ways = {0, 40, 20, 8, 32};
    for (int way : ways) l.star(way, 100, 0);
    l.tell(0, 0, 4100, 4100, 1);
    due(l.fewest(), 0b00001, "the least of things 0 and 3");
    l.tell(0, 0, 36100, 36100, 1);
    due(l.fewest(), 0b00011, "two and two: the least of each");
    l.tell(0, 0, 14100, 14100, 1);
    due(l.fewest(), 0b01010, "2 or 3 as well: 3 stands for two");
    l.tell(0, 0, 26100, 26100, 1);
    due(l.fewest(), 0b11000, "3 and 4 stand for all, three lesser bits don't count");
    MarshLights all = seers(0);
    for (int i = 0; i < 12; i++) all.star(20 * i, 100, 0);
    for (int i = 0; i < 60; i++) all.tell(0, 0, i % 12 * 20100 - i % 12 * 100 + 100, i % 12 * 20000 + 100, 1);
    due(all.fewest(), 4095, "all twelve");
    MarshLights unlike = seers(0);
    unlike.off(32, 200);
    for (int i = 0; i < 12; i++) unlike.star(20 * (i / 3), 300 + 100 * (i % 3), 0);
    // 60 tellings, of each of four ways on end and of three slopes on end: just those stars.
    for (int i = 0; i < 60; i++) {
      int[] w = {0, 0, 0, 1, 0, 2, 0, 3, 1, 1, 1, 2, 1, 3, 2, 2, 2, 3, 3, 3};
      int[] s = {0, 0, 0, 1, 0, 2, 1, 1, 1, 2, 2, 2};
      int way = i / 6;
      int slope = i % 6;
      unlike.tell(0, 0, (20 * w[2 * way] + 30) * 1000 + 100 * s[2 * slope] + 450,
          Math.floorMod(20 * w[2 * way + 1] - 30, 256) * 1000 + 100 * s[2 * slope + 1] + 150, 1);
      int fit = (w[2 * way + 1] - w[2 * way] + 1) * (s[2 * slope + 1] - s[2 * slope] + 1);
      due(unlike.fits(i, NONE), fit, "of 60 unlike ones", i);
    }
    due(unlike.fewest(), 4095, "60 unlike ones, twelve of them with one alone");
    MarshLights last = seers(0);
    for (int i = 0; i < 12; i++) last.star(10 * i, 100, 0);
    last.tell(0, 0, 118100, 118100, 1);
    due(last.fewest(), 2048, "the twelfth alone");
  }

  // ---- 18, 19: joined, cross ----

  private static void joined() {
    says(18, "Two TELLINGS of unlike SEERS with a MINUTE in common are JOINED");
    int[][] spans = {{10, 20, 20, 30, 1}, {10, 20, 21, 30, 0}, {20, 30, 10, 20, 1}, {21, 30, 10, 20, 0}, {10, 10, 10, 10, 1},
        {10, 10, 11, 11, 0}, {10, 30, 15, 16, 1}, {15, 16, 10, 30, 1}, {0, 239, 239, 239, 1}, {0, 0, 0, 239, 1},
        {0, 238, 239, 239, 0}};
    for (int[] s : spans) {
      MarshLights m = seers(0, 0);
      m.star(100, 100, 0);
      m.tell(0, s[0] * 1000 + s[1], 100100, 100100, 1);
      m.tell(1, s[2] * 1000 + s[3], 100100, 100100, 1);
      m.tell(0, s[2] * 1000 + s[3], 100100, 100100, 1);
      due(m.joined(0, 1), s[4] == 1 ? 2 : NONE, s[0], s[1], s[2], s[3]);
      due(m.joined(1, 0), s[4] == 1 ? 2 : NONE, s[2], s[3], s[0], s[1]);
      due(m.joined(0, 2), NONE, "of one seer");
    }
    says(18, "2, if a THING FITS both; 1, if none does, but neither is LEFT (they were two); 0 if one is LEFT");
    MarshLights m = seers(0, 0);
    m.star(100, 100, 0);
    m.star(117, 100, 0);
    m.tell(0, 0, 100100, 100100, 1);
    int[][] others = {{100, 2}, {108, 2}, {109, 1}, {125, 1}, {126, 0}, {92, 2}, {91, 0}};
    for (int i = 0; i < others.length; i++) {
      m.tell(1, 0, others[i][0] * 1001 - others[i][0] + 100, others[i][0] * 1000 + 100, 1);
      due(m.joined(0, i + 1), others[i][1], others[i][0]);
      due(m.joined(i + 1, 0), others[i][1], others[i][0]);
    }
    m.tell(0, 0, 30100, 30100, 1);
    due(m.joined(8, 5), 0, "both are left");
    due(m.joined(8, 1), 0, "one is left");
    due(m.joined(1, 8), 0, "one is left");
    due(m.joined(0, 0), NONE, "one and the same");
    due(m.joined(0, 9), NONE, "none such");
    due(m.joined(-1, 0), NONE, "none such");
  }

  /** From 0, 0 the row with y 0 has way 0 alone; from 0, 63 its ways go from 193 to 224. */
  private static MarshLights corner(int wayOne, int wayOther) {
    MarshLights m = seers(p(0, 0), p(0, 63));
    m.tell(0, 5009, wayOne * 1000 + 100, 0, 1);
    m.tell(1, 5007, wayOther * 1000 + 100, 0, 1);
    return m;
  }

  private static void crossed(MarshLights m, int places, int leastX, int greatestX, int leastY, int greatestY) {
    int[] want = {places, NONE, leastX, greatestX, leastY, greatestY};
    for (int what = 0; what < 6; what++) {
      if (what != 1) due(m.cross(0, 1, what), places == 0 ? NONE : want[what], "cross", what);
      due(m.cross(1, 0, what), m.cross(0, 1, what), "the other way", what);
    }
    due(m.cross(0, 1, -1), NONE, "others");
    due(m.cross(0, 1, 6), NONE, "others");
  }

  private static void crossWays() {
    says(19, "its WAYS from both are A apart at most from those told at first");
    crossed(corner(248, 216), 43, 21, 63, 0, 0);
    crossed(corner(247, 216), 0, 0, 0, 0, 0);
    crossed(corner(248, 232), 1, 63, 63, 0, 0);
    crossed(corner(248, 233), 0, 0, 0, 0, 0);
    crossed(corner(248, 185), 2, 1, 2, 0, 0);
    says(19, "They CROSS at a PLACE (not where one of the two SEERS stands)");
    crossed(corner(248, 184), 0, 0, 0, 0, 0);
    MarshLights n = corner(248, 185);
    n.off(7, 20);
    crossed(n, 0, 0, 0, 0, 0);
    n.off(9, 20);
    due(n.cross(0, 1, 0) > 2, true, "with more off");
    MarshLights both = seers(p(20, 20), p(20, 20));
    both.off(32, 20);
    both.tell(0, 0, 32100, 0, 1);
    both.tell(1, 0, 32100, 0, 1);
    due(both.cross(0, 1, 2), 20, "a quarter from one place, with its sides");
    due(both.cross(0, 1, 4), 20, "a quarter from one place, with its sides");
    due(both.cross(0, 1, 0), 44 * 44 - 1, "but not the place itself");
  }

  private static void crossPlaces() {
    says(19, "if their first MINUTES are the same");
    MarshLights m = seers(p(0, 10), p(20, 10));
    m.off(0, 20);
    m.tell(0, 5009, 10, 0, 1);
    m.tell(1, 5005, 128010, 0, 1);
    m.tell(1, 6009, 128010, 0, 1);
    m.tell(1, 4009, 128010, 0, 1);
    crossed(m, 19, 1, 19, 10, 10);
    for (int what = 0; what < 6; what++) {
      due(m.cross(0, 2, what), NONE, "a minute later", what);
      due(m.cross(0, 3, what), NONE, "a minute ahead", what);
      due(m.cross(1, 2, what), NONE, "of one seer", what);
    }
    says(19, "2 and 3 the least and greatest x of the PLACES, 4 and 5 the least and greatest y");
    int[][] seers = {{0, 0, 1, 0, 0, 63, 63, 0, 0}, {63, 5, 62, 5, 128, 61, 0, 5, 5}, {9, 0, 9, 1, 64, 62, 9, 9, 2},
        {9, 63, 9, 62, 192, 62, 9, 9, 0}};
    int[][] want = {{62, 2, 63, 0, 0}, {62, 0, 61, 5, 5}, {62, 9, 9, 2, 63}, {62, 9, 9, 0, 61}};
    MarshLights first = seers(p(0, 5), p(0, 9), p(30, 30), p(30, 40));
    first.off(0, 20);
    first.tell(2, 0, 64010, 0, 1);
    first.tell(3, 0, 64010, 0, 1);
    crossed(first, 23, 30, 30, 41, 63);
    first.undo();
    first.undo();
    first.tell(0, 0, 192010, 0, 1);
    first.tell(1, 0, 192010, 0, 1);
    crossed(first, 5, 0, 0, 0, 4);
    for (int i = 0; i < 4; i++) {
      MarshLights e = seers(p(seers[i][0], seers[i][1]), p(seers[i][2], seers[i][3]));
      e.off(0, 20);
      e.tell(0, 0, seers[i][4] * 1000 + 10, 0, 1);
      e.tell(1, 0, seers[i][4] * 1000 + 10, 0, 1);
      crossed(e, want[i][0], want[i][1], want[i][2], want[i][3], want[i][4]);
    }
  }

  /** Two seers whose ways cross at 10, 10 alone, both 20 from it: a slope is 5 by each z above 1. */
  private static int heights(int slopeOne, int slopeOther, int b) {
    MarshLights m = seers(p(0, 0), p(20, 0));
    m.off(0, b);
    m.tell(0, 0, 32000 + slopeOne, 0, 1);
    m.tell(1, 0, 96000 + slopeOther, 0, 1);
    due(m.cross(0, 1, 0), 1, "one place");
    return m.cross(0, 1, 1);
  }

  /** The same in the lower half of the map: at 40, 50, 20 from 30, 40 and 20 from 30, 60. */
  private static int heightsBelow(int slopeOne, int slopeOther, int b) {
    MarshLights m = seers(p(30, 40), p(30, 60));
    m.off(0, b);
    m.tell(0, 0, 32000 + slopeOne, 0, 1);
    m.tell(1, 0, 224000 + slopeOther, 0, 1);
    due(m.cross(0, 1, 0), 1, "one place");
    return m.cross(0, 1, 1);
  }

  /** They cross at 63, 0 alone, 63 from the one and 126 from the other. */
  private static int farHeights(int slopeOne, int slopeOther) {
    MarshLights m = seers(p(0, 0), p(0, 63));
    m.off(0, 0);
    m.tell(0, 0, slopeOne, 0, 1);
    m.tell(1, 0, 224000 + slopeOther, 0, 1);
    due(m.cross(0, 1, 2), 63, "one place");
    return m.cross(0, 1, 1);
  }

  private static void crossHeights() {
    says(19, "at a HEIGHT, too, if for some z (0 .. 255) SLOPES are B apart at most from those told at first");
    due(heights(100, 100, 0), 1, "z 21");
    due(heights(101, 101, 0), 0, "between two z");
    due(heights(101, 101, 1), 1, "z 21");
    due(heights(100, 105, 0), 0, "z 21 and 22");
    due(heights(100, 105, 4), 0, "z 21 and 22");
    due(heights(100, 105, 5), 1, "both");
    due(heights(102, 105, 2), 0, "z 21 and 22");
    due(heights(102, 105, 3), 1, "z 22");
    due(heights(105, 100, 4), 0, "the other way");
    due(heights(105, 100, 5), 1, "the other way");
    due(heights(0, 0, 0), 1, "z 1");
    due(heightsBelow(100, 100, 0), 1, "z 21");
    due(heightsBelow(100, 105, 0), 0, "z 21 and 22");
    due(heightsBelow(105, 105, 0), 1, "z 22");
    due(heights(999, 999, 0), 1, "z from 201 on");
    due(heights(998, 999, 0), 0, "998 isn't");
    due(heights(995, 995, 0), 1, "z 200");
    due(heights(995, 999, 3), 0, "z 200 and 201");
    due(heights(995, 999, 4), 1, "999 is within");
    due(farHeights(403, 201), 1, "z 255");
    due(farHeights(404, 202), 0, "z 256");
    due(farHeights(403, 202), 0, "z 255 and 256");
    due(farHeights(401, 200), 1, "z 254");
    MarshLights e = seers(p(63, 20), p(53, 10));
    hill(e, 63, 20, 60);
    e.off(0, 0);
    e.tell(0, 0, 160000, 0, 1);
    e.tell(1, 0, 0, 0, 1);
    due(e.cross(0, 1, 0), NONE, "no place beside the other seer");
    e.undo();
    e.undo();
    e.tell(0, 0, 192000, 0, 1);
    e.tell(1, 0, 600, 0, 1);
    due(e.cross(0, 1, 2), 63, "at 63, 10 alone");
    due(e.cross(0, 1, 4), 10, "at 63, 10 alone");
    due(e.cross(0, 1, 1), 1, "z 61 from eye 61 and from eye 1");
    e.undo();
    e.tell(1, 0, 610, 0, 1);
    due(e.cross(0, 1, 1), 0, "z 62 from eye 1");
    says(19, "0 at how many PLACES, 1 of these at a HEIGHT, too");
    MarshLights m = seers(p(0, 10), p(20, 10));
    m.off(0, 0);
    m.tell(0, 0, 100, 0, 1);
    m.tell(1, 0, 128100, 0, 1);
    due(m.cross(0, 1, 0), 19, "places");
    due(m.cross(0, 1, 1), 1, "as high from both in the middle alone");
    m.undo();
    m.tell(1, 0, 128101, 0, 1);
    due(m.cross(0, 1, 0), 19, "places");
    due(m.cross(0, 1, 1), 0, "at none a height, but there are places");
    says(19, "NONE for others, if there is none");
    m.undo();
    m.tell(1, 0, 64100, 0, 1);
    for (int what = -1; what < 7; what++) due(m.cross(0, 1, what), NONE, "no place", what);
  }

  // ---- 20, 21: out, outs ----

  private static void out() {
    says(20, "in the first MINUTE behind one in which it was SHOWN in which it isn't");
    MarshLights m = seers(p(0, 0), p(40, 0));
    hill(m, 10, 0, 20);
    m.flare(100200, p(20, 0), 60, 3);
    due(m.seen(0, 0, 107, 2), 1, "shown");
    due(m.seen(0, 0, 108, 2), 0, "hidden");
    due(m.out(0, 0), 108, "behind the hill");
    due(m.out(0, 1), 120, "at the ground");
    m.flare(100101, p(20, 0), 60, 3);
    due(m.out(1, 0), 102, "behind its last one");
    m.flare(100100, p(20, 0), 39, 1);
    due(m.out(2, 0), 101, "there for a minute, just shown");
    m.flare(100101, p(20, 0), 39, 1);
    due(m.seen(3, 0, 100, 2), 1, "just shown");
    due(m.out(3, 0), 101, "shown for a minute");
    m.flare(100101, p(20, 0), 38, 1);
    due(m.seen(4, 0, 100, 2), 0, "hidden at once");
    due(m.out(4, 0), NONE, "never shown");
    due(m.out(4, 1), 102, "to the other");
    says(20, "(up to the MINUTE behind its last one; 240 at most)");
    m.flare(239, p(60, 60), 255, 0);
    m.flare(239239, p(60, 60), 255, 20);
    m.flare(238238, p(60, 60), 255, 20);
    m.flare(0, p(60, 60), 1, 20);
    m.flare(239, p(60, 60), 239, 1);
    m.flare(239, p(60, 60), 240, 1);
    due(m.out(5, 1), 240, "there to the end");
    due(m.out(6, 1), 240, "there in 239 alone");
    due(m.out(7, 1), 239, "there in 238 alone");
    due(m.out(8, 1), 1, "there in 0 alone");
    due(m.out(9, 1), 239, "at the ground in 239");
    due(m.out(10, 1), 240, "above it in 239");
    says(20, "NONE if it is none, or never goes OUT.");
    m.flare(0, p(60, 60), 0, 0);
    due(m.out(11, 1), NONE, "never there");
    MarshLights n = seers(p(0, 0));
    n.star(0, 0, 0);
    point(n, p(5, 5), 5);
    n.flies(4, 10020, p(5, 5), 5, STILL);
    n.flies(5, 10020, p(5, 5), 5, STILL);
    n.lamp(p(5, 5), 5, 2, 0);
    n.flare(0, p(5, 5), 5, 0);
    for (int thing = 0; thing < 7; thing++) due(n.out(thing, 0), thing == 5 ? 1 : NONE, "thing", thing);
    due(n.out(5, 1), NONE, "no such seer");
    due(n.out(-1, 0), NONE, "no such thing");
  }

  private static void outs() {
    says(21, "At how many PLACES a FLARE that begins in the first MINUTE at a z, with a fall, and is there to the end");
    MarshLights m = seers(p(0, 0));
    due(m.outs(0, 10, 20, 2), 4096, "at the ground in the tenth");
    due(m.outs(0, 9, 20, 2), 0, "still above");
    due(m.outs(0, 11, 20, 2), 0, "out earlier");
    due(m.outs(0, 10, 19, 2), 4096, "below the ground");
    due(m.outs(0, 10, 18, 2), 0, "out earlier");
    due(m.outs(0, 1, 0, 20), 0, "never there");
    due(m.outs(0, 1, 1, 20), 4096, "there for a minute");
    due(m.outs(0, 1, 1, 0), 0, "no fall");
    due(m.outs(0, 1, 255, 20), 0, "far above");
    due(m.outs(0, 13, 255, 20), 4096, "greatest z and fall");
    says(21, "NONE if they can't be, or the second isn't 1 .. 20 behind the first.");
    due(m.outs(0, 100100, 20, 1), NONE, "0 behind");
    due(m.outs(0, 100101, 1, 1), 4096, "1 behind");
    due(m.outs(0, 100120, 20, 1), 4096, "20 behind");
    due(m.outs(0, 100121, 21, 1), NONE, "21 behind");
    due(m.outs(0, 219239, 20, 1), 4096, "to the last minute");
    due(m.outs(0, 219240, 20, 1), NONE, "behind it");
    says(21, "would go OUT for a SEER in the second one");
    MarshLights h = seers(p(0, 0));
    h.hill(p(1, 0), p(1, 0), 10);
    // Behind the hill the line at a sixteenth from 1 must be 10: of the row y = 0 only those whose steps come to it.
    for (int lapse = 1; lapse <= 20; lapse++) {
      int want = 0;
      for (int place = 0; place < 4096; place += 1) want += outAt(place, lapse, 60, 7) ? 1 : 0;
      due(h.outs(0, 5000 + 5 + lapse, 60, 7), want, "lapse", lapse);
    }
    due(h.outs(0, 5014, 60, 7) < 4096, true, "not everywhere at the ground");
    int[][] at = {{63, 2}, {2, 60}, {50, 13}, {13, 50}};
    for (int[] xy : at) {
      for (int lapse = 3; lapse <= 15; lapse += 4) {
        int want = 0;
        for (int place = 0; place < 4096; place++) {
          MarshLights one = byHills(xy[0], xy[1]);
          one.flare(239, place, 70, 5);
          want += one.out(0, 0) == lapse ? 1 : 0;
        }
        due(byHills(xy[0], xy[1]).outs(0, lapse, 70, 5), want, "as a flare at each place", xy[0], xy[1], lapse);
      }
    }
    // Hills of one place: one that the last step alone comes to from 16, 0, and one below the flare itself.
    for (int lapse = 1; lapse <= 20; lapse++) {
      int want = 0;
      for (int place = 0; place < 4096; place++) {
        MarshLights one = byPoints();
        one.flare(239, place, 75, 4);
        want += one.out(0, 0) == lapse ? 1 : 0;
      }
      due(byPoints().outs(0, lapse, 75, 4), want, "as a flare at each place", lapse);
    }
    MarshLights own = seers(p(7, 7));
    own.hill(p(0, 0), p(63, 63), 10);
    own.hill(p(7, 7), p(7, 7), 20);
    due(own.outs(0, 1, 21, 1), 1, "at the seer's own place, on its hill");
    due(own.outs(0, 1, 20, 1), 3, "not there, but at the three places beside it to which a line goes over that hill");
    due(own.count(2), 0, "nothing comes of it");
  }

  /** A seer on a hill, with a higher one on two sides. */
  private static MarshLights byHills(int x, int y) {
    MarshLights m = seers(p(x, y));
    hill(m, x, y, 8);
    m.hill(p(x < 32 ? x + 3 : x - 3, 0), p(x < 32 ? x + 4 : x - 4, 50), 20);
    m.hill(p(0, y < 32 ? y + 5 : y - 5), p(63, y < 32 ? y + 5 : y - 5), 31);
    return m;
  }

  private static MarshLights byPoints() {
    MarshLights m = seers(p(0, 0));
    hill(m, 15, 0, 60);
    hill(m, 62, 62, 50);
    hill(m, 1, 62, 33);
    return m;
  }

  /** Whether a flare over the hill of height 10 at 1, 0 goes out so much later, seen from 0, 0. */
  private static boolean outAt(int place, int lapse, int z, int fall) {
    return shownFrom(place, z - fall * (lapse - 1)) && !shownFrom(place, z - fall * lapse);
  }

  private static boolean shownFrom(int place, int z) {
    if (z <= (place == p(1, 0) ? 10 : 0)) return false;
    for (int k = 1; k < 16; k++) {
      boolean onHill = place / 64 * k / 16 == 1 && place % 64 * k / 16 == 0;
      if (onHill && 10 > 1 + Math.floorDiv((z - 1) * k, 16)) return false;
    }
    return true;
  }

  // ---- 22, 23: size, hulls ----

  private static void size() {
    says(22, "that times the |dx| + |dy| to the THING in the TELLING's first MINUTE, by the far believed (cut)");
    MarshLights m = seers(p(10, 14));
    m.star(0, 0, 0);
    m.flies(5, 10020, p(10, 14), 9, speed(-2, 3));
    m.lamp(p(9, 17), 5, 2, 1);
    m.flare(10020, p(11, 13), 10, 5);
    int[] minutes = {9, 10, 11, 12, 20, 21};
    for (int n : minutes) m.tell(0, n * 1000 + 30, 0, 0, 1);
    int[] far = {NONE, 0, 5, 10, 50, NONE};
    int[] flare = {NONE, 2, 2, NONE, NONE, NONE};
    for (int i = 0; i < 6; i++) {
      due(m.size(i, 0, 1, 1), NONE, "a star", i);
      due(m.size(i, 1, 1, 1), far[i], "a thing from 10 to 20", i);
      due(m.size(i, 2, 1, 1), 4, "a lamp, lit or not", i);
      due(m.size(i, 3, 1, 1), flare[i], "a flare until 11", i);
    }
    due(m.size(4, 1, 10000, 1), 500000, "greatest size, least far");
    due(m.size(4, 1, 1, 10000), 0, "least size, greatest far");
    due(m.size(4, 1, 1, 50), 1, "just 1");
    due(m.size(4, 1, 1, 51), 0, "cut");
    due(m.size(4, 1, 2, 51), 1, "cut");
    due(m.size(4, 1, 10000, 10000), 50, "as far");
    says(22, "NONE if there are none such, or the THING is a STAR or not there then.");
    due(m.size(6, 1, 1, 1), NONE, "no such telling");
    due(m.size(-1, 1, 1, 1), NONE, "no such telling");
    due(m.size(4, 4, 1, 1), NONE, "no such thing");
    due(m.size(4, -1, 1, 1), NONE, "no such thing");
    MarshLights c = seers(p(60, 0), p(0, 60), p(63, 1), p(1, 63));
    point(c, p(60, 60), 9);
    for (int i = 0; i < 4; i++) c.tell(i, 0, 0, 0, 1);
    int[] away = {60, 60, 62, 62};
    for (int i = 0; i < 4; i++) due(c.size(i, 0, 1, 1), away[i], "from seer", i);
    MarshLights f = seers(p(63, 63));
    f.flies(5, 239, p(0, 0), 0, speed(-20, -20));
    f.tell(0, 239239, 0, 0, 1);
    due(f.size(0, 0, 10000, 1), 10000 * 2 * (63 + 4780), "the farthest");
  }

  private static void hulls() {
    says(23, "Of TELLINGS that aren't LEFT, with so many LIGHTS at least");
    MarshLights m = seers(0);
    m.star(100, 100, 0);
    for (int lights = 1; lights <= 9; lights++) {
      m.tell(0, 0, 100100, 100100, lights);
      m.tell(0, 0, 108120, 92080, 10 + lights);
      m.tell(0, 0, 109100, 100100, 10 + lights);
    }
    for (int lights = 1; lights <= 9; lights++) {
      due(m.hulls(lights, 0), 2 * (10 - lights), "how many", lights);
      due(m.hulls(lights, 1), 10 - lights, "with a hull", lights);
    }
    due(m.hulls(0, 0), NONE, "lights 0");
    due(m.hulls(10, 0), NONE, "lights 10");
    due(m.hulls(1, 2), NONE, "others");
    due(m.hulls(1, -1), NONE, "others");
    m.off(0, 0);
    due(m.hulls(1, 0), 9, "those with a hull are left");
    due(m.hulls(1, 1), 0, "those with a hull are left");
  }

  // ---- 24: ask ----

  private static void askWays() {
    says(24, "both SHOWN then with WAYS more than A apart");
    for (int a = 0; a <= 32; a += 8) {
      for (int more = 0; more < 2; more++) {
        MarshLights m = seers(0);
        m.off(a, 20);
        // A is counted over the wrap: 250 and 250 + A (and one more, by its turn in minute 8 to 15 alone).
        m.star(250, 100, 0);
        m.star(250 + a - (250 + a > 255 ? 256 : 0), 100, more);
        m.tell(0, 15, 250100, (250 + a + more) % 256 * 1000 + 100, 1);
        int fit = m.fits(0, NONE);
        due(m.ask(2), more == 1 && fit == 2 ? 1 : NONE, "A", a, more);
        m.undo();
        m.tell(0, 10, (250 + a / 2) % 256 * 1000 + 100, (250 + (a + 1) / 2) % 256 * 1000 + 100, 1);
        fit = m.fits(0, NONE);
        due(fit, a == 0 && more == 1 ? 1 : 2, "both fit", a, more);
        due(m.ask(2), more == 1 && fit == 2 ? 1 : NONE, "A", a, more);
        due(m.ask(1), more == 1 && fit == 2 ? 8 : NONE, "A", a, more);
      }
    }
    MarshLights all = seers(0);
    for (int i = 0; i < 12; i++) all.star(i % 2 == 0 ? 96 : 105, 100, 0);
    all.tell(0, 0, 100100, 100100, 1);
    due(all.fits(0, NONE), 12, "twelve fit");
    due(all.ask(2), 36, "six by six");
    says(24, "NONE for others, or if nothing parts any.");
    MarshLights m = seers(0);
    for (int what = -1; what < 4; what++) due(m.ask(what), NONE, "no telling", what);
    m.star(100, 100, 0);
    m.tell(0, 0, 104100, 104100, 1);
    for (int what = -1; what < 4; what++) due(m.ask(what), NONE, "one thing alone", what);
    m.star(108, 100, 0);
    for (int what = -1; what < 4; what++) due(m.ask(what), NONE, "just A apart", what);
    m.star(109, 100, 0);
    int[] want = {NONE, 0, 0, 1, NONE};
    for (int what = -1; what < 4; what++) due(m.ask(what), want[what + 1], "one more", what);
  }

  private static void askMinutes() {
    says(24, "a MINUTE of its own (from its first to its second)");
    // Two stars, the second from minute 8 on more than A from the first.
    int[][] spans = {{0, 7, NONE}, {0, 8, 8}, {8, 8, 8}, {9, 15, 9}, {7, 7, NONE}, {15, 15, 15}};
    for (int[] s : spans) {
      MarshLights m = seers(0);
      m.star(100, 100, 0);
      m.star(108, 100, 1);
      m.tell(0, s[0] * 1000 + s[1], 104100, 104100, 1);
      m.off(8, 20);
      due(m.ask(1), s[2], "minutes", s[0], s[1]);
    }
    MarshLights o = seers(0);
    o.star(100, 100, 0);
    o.star(109, 100, 0);
    o.tell(0, 0, 104100, 104100, 1);
    due(o.ask(2), 1, "9 apart");
    o.off(9, 20);
    due(o.ask(2), NONE, "not more than 9 apart");
    o.off(8, 20);
    due(o.ask(2), 1, "more than 8 apart again");
    o.off(4, 20);
    due(o.ask(2), NONE, "one doesn't fit any more");
    says(24, "or of which just one is SHOWN then");
    MarshLights l = seers(p(32, 32));
    l.lamp(p(32, 42), 11, 5, 0);
    l.lamp(p(32, 42), 11, 10, 0);
    l.lamp(p(32, 42), 11, 10, 0);
    l.star(64, 100, 0);
    l.tell(0, 10, 64100, 64100, 1);
    due(l.fits(0, NONE), 4, "all fit");
    due(l.ask(2), 4, "two of four: four couples");
    due(l.ask(1), 5, "ahead of that one of four: three couples");
    says(24, "of like ones the least TELLING, then the least MINUTE");
    MarshLights m = seers(p(32, 32));
    m.lamp(p(32, 42), 11, 5, 0);
    m.star(64, 100, 0);
    m.tell(0, 5005, 64100, 64100, 1);
    m.tell(0, 5020, 64100, 64100, 1);
    m.tell(0, 10, 64100, 64100, 1);
    due(m.ask(0), 1, "the least telling that parts any");
    due(m.ask(1), 6, "its least minute");
    due(m.ask(2), 1, "one couple");
    m.star(70, 100, 8);
    // In minute 3 of the third telling the new star is more than 8 from the other: at last it doesn't fit.
    m.tell(0, 5, 66100, 72100, 1);
    due(m.fits(3, NONE), 3, "all fit");
    due(m.ask(0), 3, "a later one with more couples");
    due(m.ask(1), 3, "the least minute with all three");
    due(m.ask(2), 3, "the unlit lamp from both stars, and the two apart");
  }

  // ---- 25 to 28: text, fault, rules ----

  private static void text() {
    says(25, "of each number the highest first (20 of them): how many there are");
    MarshLights m = new MarshLights();
    due(m.feed(0x67726f77, 0x2831302b, 0x32293b20, 0x20202020, 0x20202020), 20, "grow(10+2);");
    due(m.fault(), NONE, "in their order");
    due(m.rules(), 0, "rules");
    due(m.grown(1, 0, 0, 0), 12, "grown");
    says(25, "NONE if there would be more than 400");
    for (int i = 1; i <= 20; i++) due(m.feed(i, -i, i, -i, i), 20 * i, "feed", i);
    due(m.feed(0, 0, 0, 0, 0), NONE, "more than 400");
    due(m.count(7), 400, "as they were");
    due(m.end(399), true, "one less");
    due(m.feed(0, 0, 0, 0, 0), NONE, "419");
    due(m.count(7), 399, "as they were");
    due(m.end(381), true, "less");
    due(m.feed(0, 0, 0, 0, 0), NONE, "401");
    due(m.count(7), 381, "as they were");
    due(m.end(380), true, "less");
    due(m.feed(0, 0, 0, 0, 0), 400, "400");
    says(26, "The text has its first n bytes alone: true; false if it has not so many, or n is below 0.");
    due(m.end(401), false, "not so many");
    due(m.end(-1), false, "below 0");
    due(m.count(7), 400, "as they were");
    due(m.end(400), true, "all of them");
    due(m.end(1), true, "one");
    due(m.end(2), false, "not so many any more");
    due(m.count(7), 1, "one");
    due(m.end(0), true, "none");
    due(m.end(0), true, "none of none");
    due(m.end(1), false, "not so many");
    says(25, "Bytes come behind those of the text");
    Twins.write(m, "grow ");
    Twins.write(m, "3");
    Twins.write(m, "4;");
    due(m.count(7), 8, "behind those that stayed");
    due(m.rules(), 0, "rules");
    due(m.grown(1, 0, 0, 0), 34, "one number of two feeds");
  }

  private static void tokens() {
    says(27, "a byte that begins no TOKEN, if that is ahead");
    for (int c = 0; c < 256; c++) {
      // Behind "grow 1 " blanks go on, ; ends the line, + - * want more, and all else can't stand there.
      String text = "grow 1 " + (char) c;
      boolean more = c == ' ' || c == '\n' || c == '+' || c == '-' || c == '*';
      int due = c == ';' ? NONE : more ? 8 : 7;
      due(faultOf(text), due, "byte", c);
      // Where no token can't stand there, the byte is told that begins none.
      due(faultOf("say star if (1 " + (char) c + ") = 1;") == NONE, c == ' ' || c == '\n', "byte", c);
      due(faultOf("grow 1;" + (char) c) == 7, !(c == ' ' || c == '\n'), "behind a line", c);
    }
    fault("grow ; #", 5);
    fault("grow # ;", 5);
    fault("grow #", 5);
    fault("# grow ;", 0);
    fault("grow 1 #;", 7);
    fault("grow 1; #", 8);
    fault("grow\t1;", 4);
    fault("grow 1;\r\n", 7);
    fault("grow A;", 5);
    fault("grow lightS;", 5);
    fault("grow lightsS;", 11);
    fault("grow _;", 5);
    fault("grow `;", 5);
    fault("grow {;", 5);
    fault("grow /;", 5);
    fault("grow :;", 5);
    int[] beside = {'`', '{', '/', ':', 'A', 'Z', 255, 0, 127, 128, 9, 11, 13, 31, 33, '!', ',', '.', '>', '[', ']'};
    for (int c : beside) {
      fault("grow lights" + (char) c + ";", 11);
      fault("grow 12" + (char) c + ";", 7);
      fault("grow " + (char) c + "lights;", 5);
      fault("grow (" + (char) c + "12);", 6);
    }
    says(27, "words of small letters, numbers of digits, as long as can be");
    fault("grow 1lights;", 6);
    fault("grow lights1;", 11);
    fault("grow1;", NONE);
    fault("growlights;", 0);
    fault("grow lightslights;", 5);
    fault("grow light;", 5);
    fault("grow lightss;", 5);
    fault("grow l;", 5);
    fault("grow lightsz;", 5);
    fault("grow lightsa;", 5);
    fault("zgrow 1;", 0);
    fault("grow 1z;", 6);
    fault("grow 1029384756;", 5);
    fault("grow 90;", NONE);
    fault("grow 09;", NONE);
    fault("say star if1<2;", NONE);
    fault("say star if 1<2and 2<3;", NONE);
    fault("say star if 1<2and2<3;", NONE);
    fault("say star if 1<lightsand 2<3;", 14);
    fault("saystar if 1<2;", 0);
    fault("grow 1 1;", 7);
    says(27, "with any blanks (32) and line ends (10) between");
    fault("\n\n  grow\n\n\n 1 \n ; \n", NONE);
    fault("gr ow 1;", 0);
    fault("grow 1\n2;", 7);
  }

  private static void numbers() {
    says(27, "a number 0 .. 9999");
    fault("grow 0;", NONE);
    fault("grow 9999;", NONE);
    fault("grow 10000;", 5);
    fault("grow 10001;", 5);
    fault("grow 99999;", 5);
    fault("grow 1+10000;", 7);
    fault("grow 10000 #", 5);
    fault("grow 65536;", 5);
    fault("grow 4294967296;", 5);
    fault("grow 4294967297;", 5);
    fault("grow 18446744073709551617;", 5);
    fault("grow " + "9".repeat(395), 5);
    fault("grow -1;", 5);
    fault("say star if 10000<1;", 12);
    fault("say star if 1<10000;", 14);
    due(growing("9999-9950", 1, 0, 0, 0), 49, "9999");
    due(growing("0+3", 1, 0, 0, 0), 3, "0");
  }

  private static void brackets() {
    says(27, "brackets are open one in another 8 deep at most");
    for (int deep = 1; deep <= 12; deep++) {
      String open = "(".repeat(deep);
      String close = ")".repeat(deep);
      fault("grow " + open + "1" + close + ";", deep <= 8 ? NONE : 13);
      fault("say star if 1=" + open + "1" + close + ";", deep <= 8 ? NONE : 22);
      fault("say star if " + open + "1" + close + "<1;", deep <= 8 ? NONE : 20);
      fault("grow (1)+" + open + "1" + close + "*(2);", deep <= 8 ? NONE : 17);
      fault("grow " + open + "1" + close + ")" + ";", deep <= 8 ? 6 + 2 * deep : 13);
      fault("grow " + open + "1" + ")".repeat(deep - 1) + ";", deep <= 8 ? 5 + 2 * deep : 13);
    }
    fault("grow ((((((((1))))))))+((((((((1))))))));", NONE);
    fault("grow (((((((1+(1)))))))+((1)));", NONE);
    fault("grow (((((((1+((1)))))))));", 15);
    String waiting = "1";
    for (int deep = 0; deep < 8; deep++) waiting = "2+1*(" + waiting + ")";
    due(growing(waiting + "+3", 1, 0, 0, 0), 20, "sums and products that wait at each depth");
    waiting = "1";
    for (int deep = 0; deep < 8; deep++) waiting = "1-2*(" + waiting + ")";
    // 1 becomes 1 - 2 = -1, 3, -5, 11, -21, 43, -85, 171.
    due(growing(waiting + "-100", 1, 0, 0, 0), 71, "differences and products that wait at each depth");
    waiting = "1";
    for (int deep = 0; deep < 8; deep++) waiting = "0+1*(" + waiting + ")";
    MarshLights m = ruled("say flare if 1=1 and 1<" + waiting + ";say lamp if 1=1 and 1=" + waiting + ";");
    m.seer(0);
    m.tell(0, 0, 0, 0, 1);
    due(m.office(0, 0, 0, 0), 3, "as deep behind an and");
    fault("grow ();", 6);
    fault("grow (", 6);
    fault("grow (1", 7);
    fault("grow );", 5);
  }

  private static void lines() {
    says(27, "the length, if it ends too early, or there is no LINE; NONE without");
    fault("", 0);
    fault(" ", 1);
    fault("\n \n", 3);
    fault(" ".repeat(400), 400);
    String whole = "say flare if lights*(2+hull)<days-1 and way=3;";
    int[] ends = {0, 3, 4, 9, 10, 12, 13, 19, 20, 21, 22, 23, 27, 28, 29, 33, 34, 35, 36, 39, 40, 43, 44, 45};
    for (int end : ends) fault(whole.substring(0, end), end);
    fault(whole, NONE);
    says(27, "of the first TOKEN that can't stand there");
    int[] starts = {0, 4, 10, 13, 19, 20, 21, 22, 23, 27, 28, 29, 33, 34, 35, 36, 39, 40, 43, 44, 45};
    for (int start : starts) {
      // if stands nowhere but behind a kind, and is known as soon as it comes.
      if (start != 10) fault(whole.substring(0, start) + " if ;", start + 1);
    }
    fault(whole.substring(0, 10) + " say ;", 11);
    says(27, "(a second grow, the 13th say at their words)");
    fault("grow 1;grow 2;", 7);
    fault("grow 1; grow", 8);
    fault("grow 1;say star if 1=1;grow 2;", 23);
    String say = "say none if 1=1;";
    fault(say.repeat(12), NONE);
    fault(say.repeat(12) + "grow 1;", NONE);
    fault("grow 1;" + say.repeat(12), NONE);
    fault(say.repeat(13), 192);
    fault(say.repeat(12) + " say", 193);
    fault(say.repeat(12) + "grow 1;" + say, 199);
    fault(say.repeat(12) + "grow 1;grow", 199);
    fault(say.repeat(11) + "grow 1;" + say, NONE);
    fault(say.repeat(12) + "sax", 192);
    says(27, "a text of at most 400 bytes");
    due(faultOf("grow " + "1+".repeat(196) + "11;"), NONE, "400 bytes");
    due(faultOf("grow " + "1+".repeat(197) + "1"), 400, "ends too early at 400");
    due(faultOf("grow " + "1+".repeat(197) + ";"), 399, "the last byte can't stand there");
    due(faultOf("grow " + "1+".repeat(196) + "1;#"), 399, "the last byte begins no token");
    fault("(".repeat(400), 0);
    fault(";".repeat(400), 0);
    fault("x".repeat(400), 0);
    fault("1".repeat(400), 0);
    fault("\u00ff".repeat(400), 0);
  }

  private static void lineParts() {
    says(27, "K is star flight flare lamp balloon burning none");
    String[] kinds = {"star", "flight", "flare", "lamp", "balloon", "burning", "none"};
    String[] values = {"lights", "hull", "days", "papers", "minute", "way", "slope"};
    String[] words = {"grow", "say", "if", "and"};
    for (String kind : kinds) {
      fault("say " + kind + " if 1=1;", NONE);
      fault("grow " + kind + ";", 5);
      fault(kind + " if 1=1;", 0);
    }
    for (String value : values) {
      fault("say " + value + " if 1=1;", 4);
      fault("grow " + value + ";", NONE);
      fault("grow 1+" + value + "*" + value + ";", NONE);
    }
    for (String word : words) {
      fault("say " + word + " if 1=1;", 4);
      fault("grow " + word + ";", 5);
    }
    fault("say 1 if 1=1;", 4);
    says(27, "E < E or E = E, any number of and C");
    fault("say star if 1<1;", NONE);
    fault("say star if 1=1;", NONE);
    fault("say star if 1;", 13);
    fault("say star if 1+1;", 15);
    fault("say star if 1<1<1;", 15);
    fault("say star if 1=1=1;", 15);
    fault("say star if 1<=1;", 14);
    fault("say star if (1<1);", 14);
    fault("say star if 1<;", 14);
    fault("say star if 1=;", 14);
    fault("say star if <1;", 12);
    fault("say star if =1;", 12);
    fault("say star if 1=1 and 1<;", 22);
    fault("say star if 1=1 and <1;", 20);
    fault("say star if 1=1 and 1;", 21);
    fault("say star if 1=1 and;", 19);
    fault("say star if 1=1 if;", 16);
    fault("say star if ;", 12);
    fault("grow 1<1;", 6);
    fault("grow 1=1;", 6);
    fault("grow 1 and 1;", 7);
    StringBuilder ands = new StringBuilder("say star if 1=1");
    while (ands.length() + 8 <= 400) ands.append(" and 1=1");
    due(faultOf(ands + ";"), NONE, "as many and as can be");
    says(27, "E: T, any number of + T or - T. T: F, any number of * F.");
    String[] bad = {"+1", "-1", "*1", "1+", "1-", "1*", "1++1", "1+-1", "1-*1", "1**1", "1()", "(1)(1)", "1(1)", "<1"};
    int[] at = {5, 5, 5, 7, 7, 7, 7, 7, 7, 7, 6, 8, 6, 5};
    for (int i = 0; i < bad.length; i++) fault("grow " + bad[i] + ";", at[i]);
    fault("grow 1;;", 7);
    fault("grow;", 4);
    fault(";", 0);
    fault("grow 1", 6);
    fault("grow 1 say star if 1=1;", 7);
  }

  private static void rulesInPlace() {
    says(28, "The text, which is empty then, gives the RULES in place of those ahead: how many CLAUSES");
    String say = "say lamp if 1=1;";
    MarshLights m = seers(0);
    m.tell(0, 0, 0, 0, 5);
    due(Twins.write(m, say.repeat(12) + "grow 9;"), true);
    due(m.rules(), 12, "twelve");
    due(m.count(4), 12, "count");
    due(m.count(7), 0, "empty");
    due(m.fault(), 0, "empty");
    due(m.rules(), NONE, "no line");
    due(m.count(4), 12, "they stay");
    due(m.grown(1, 0, 0, 0), 9, "they stay");
    Twins.write(m, "say flare if 1=1;");
    due(m.rules(), 1, "one");
    due(m.count(4), 1, "count");
    due(m.office(0, 0, 0, 0), 2, "the new one");
    due(m.grown(1, 0, 0, 0), 1, "no grow any more");
    Twins.write(m, "grow 8;");
    due(m.rules(), 0, "none");
    due(m.office(0, 0, 0, 1), NONE, "no clause any more");
    due(m.grown(1, 0, 0, 0), 8, "grow alone");
    says(28, "NONE with a FAULT (the text and the RULES stay)");
    Twins.write(m, say.repeat(13));
    due(m.rules(), NONE, "thirteen");
    due(m.count(7), 208, "the text stays");
    due(m.fault(), 192, "its fault stays");
    due(m.count(4), 0, "the rules stay");
    due(m.grown(1, 0, 0, 0), 8, "the rules stay");
    due(m.end(192), true, "cut");
    due(m.fault(), NONE, "no fault");
    due(m.count(4), 0, "fault alone gives no rules");
    due(m.grown(1, 0, 0, 0), 8, "fault alone gives no rules");
    due(m.rules(), 12, "twelve");
    due(m.office(0, 0, 0, 0), 3, "the new ones");
  }

  // ---- 29 to 31: office, grown, before ----

  private static void bounds() {
    says(30, "Sums and products are brought to -1000000 .. 1000000 each time.");
    // 1000000 less 999900 (9999 * 100), less what is told.
    due(growing("1000*1000-9999*100-50", 1, 0, 0, 0), 50, "just 1000000");
    due(growing("1000*1000+1-9999*100-50", 1, 0, 0, 0), 50, "a sum, one more");
    due(growing("1000*1000-1-9999*100-50", 1, 0, 0, 0), 49, "one less");
    due(growing("1001*1000-9999*100-50", 1, 0, 0, 0), 50, "a product, more");
    due(growing("9999*9999*9999*9999-9999*100-50", 1, 0, 0, 0), 50, "each time");
    due(growing("1000*1000*0+7", 1, 0, 0, 0), 7, "not for good");
    due(growing("0-1000*1000+9999*100+150", 1, 0, 0, 0), 50, "just -1000000");
    due(growing("0-1000*1000-1+9999*100+150", 1, 0, 0, 0), 50, "a difference, one less");
    due(growing("0-1000*1000+1+9999*100+150", 1, 0, 0, 0), 51, "one more");
    due(growing("(0-1001)*1000+9999*100+150", 1, 0, 0, 0), 50, "a product, less");
    due(growing("(0-1000)*1000*1000*(0-1)-9999*100-50", 1, 0, 0, 0), 50, "and the other way");
    due(growing("9999*9999*(9999*9999)-9999*100-50", 1, 0, 0, 0), 50, "10 ^ 12");
    due(growing("(0-9999*9999)*(9999*9999)+9999*100+150", 1, 0, 0, 0), 50, "-10 ^ 12");
    due(growing("(0-9999*9999)*(0-9999*9999)-9999*100-50", 1, 0, 0, 0), 50, "both below 0");
    MarshLights m = ruled("say lamp if 1000*1000<1000*1000+1;say none if 1000*1000=1000*1000+1 and 0-1001*1000=0-1002*1000;");
    m.seer(0);
    m.tell(0, 0, 0, 0, 1);
    due(m.office(0, 0, 0, 1), 1, "in clauses, too");
  }

  private static void clauses() {
    says(29, "the kind of the first CLAUSE that holds, STAR without");
    StringBuilder twelve = new StringBuilder();
    String[] kinds = {"flight", "flare", "lamp", "balloon", "burning", "none"};
    for (int i = 0; i < 12; i++) twelve.append("say ").append(kinds[i % 6]).append(" if days=").append(i).append(";");
    MarshLights m = ruled(twelve.toString());
    m.seer(0);
    m.tell(0, 7009, 31041, 32042, 15);
    for (int days = 0; days < 14; days++) {
      due(m.office(0, days, 0, 0), days < 12 ? days % 6 + 1 : 0, "kind", days);
      due(m.office(0, days, 0, 1), days < 12 ? days : NONE, "clause", days);
    }
    says(29, "E < E or E = E");
    MarshLights c = ruled("say flight if days<papers;say flare if days=papers;");
    c.seer(0);
    c.tell(0, 0, 0, 0, 1);
    int[][] pairs = {{0, 1, 1}, {1, 1, 2}, {1, 0, 0}, {98, 99, 1}, {99, 99, 2}, {99, 98, 0}, {0, 0, 2}, {0, 99, 1}};
    for (int[] pair : pairs) due(c.office(0, pair[0], pair[1], 0), pair[2], pair[0], pair[1]);
    MarshLights a = ruled("say lamp if 1=days and 1=papers and lights<days*0+2;");
    a.seer(0);
    a.tell(0, 0, 0, 0, 1);
    a.tell(0, 0, 0, 0, 2);
    int[][] ands = {{0, 1, 1, 3}, {0, 0, 1, 0}, {0, 1, 0, 0}, {0, 0, 0, 0}, {1, 1, 1, 0}};
    for (int[] and : ands) due(a.office(and[0], and[1], and[2], 0), and[3], "all must hold", and[0], and[1], and[2]);
    says(29, "lights, hull (1 if drawn), days, papers, minute, way, slope (of a TELLING's first MINUTE, as told)");
    String[] values = {"lights=5", "hull=1", "days=3", "papers=4", "minute=7", "way=31", "slope=41"};
    for (String value : values) {
      MarshLights v = ruled("grow 50;say lamp if " + value + ";");
      v.seer(0);
      v.tell(0, 7009, 31041, 32042, 15);
      v.tell(0, 6007, 32042, 31041, 6);
      due(v.office(0, 3, 4, 0), 3, value);
      due(v.office(1, 4, 3, 0), 0, value);
    }
    says(29, "DAYS and PAPERS (0 .. 99 each) later");
    int[][] later = {{0, 0}, {99, 99}, {0, 99}, {99, 0}};
    for (int[] l : later) due(m.office(0, l[0], l[1], 0) != NONE, true, l[0], l[1]);
    int[][] cant = {{-1, 0}, {100, 0}, {0, -1}, {0, 100}};
    for (int[] l : cant) for (int what = 0; what < 3; what++) due(m.office(0, l[0], l[1], what), NONE, l[0], l[1]);
    due(m.office(0, 0, 0, 3), NONE, "others");
    due(m.office(0, 0, 0, -1), NONE, "others");
    due(m.office(1, 0, 0, 0), NONE, "no such telling");
    due(m.office(-1, 0, 0, 0), NONE, "no such telling");
    MarshLights w = seers(0);
    w.tell(0, 0, 0, 0, 1);
    due(w.office(0, 0, 0, 0), 0, "without rules");
    due(w.office(0, 0, 0, 1), NONE, "without rules");
    due(w.office(0, 0, 0, 2), 0, "without rules");
  }

  private static void hasty() {
    says(29, "HASTY: something FITS, but nothing of that kind (none: always, then).");
    String[] kinds = {"star", "flight", "flare", "lamp", "balloon", "burning", "none"};
    for (int said = 0; said < 7; said++) {
      MarshLights m = ruled("say " + kinds[said] + " if 1=1;");
      m.seer(p(0, 0));
      m.star(64, 50, 0);
      m.flies(1, 239, p(0, 20), 11, STILL);
      m.flare(239, p(0, 20), 11, 0);
      m.lamp(p(0, 20), 11, 1, 0);
      m.flies(4, 239, p(0, 20), 11, STILL);
      m.flies(5, 239, p(0, 20), 11, STILL);
      m.tell(0, 0, 64050, 64050, 1);
      m.tell(0, 0, 164050, 64050, 1);
      due(m.fits(0, NONE), 6, "all fit");
      due(m.office(0, 0, 0, 2), said == 6 ? 1 : 0, "all kinds fit", said);
      due(m.office(1, 0, 0, 2), 0, "nothing fits", said);
      for (int kind = 0; kind < 6; kind++) {
        MarshLights one = ruled("say " + kinds[said] + " if 1=1;");
        one.seer(p(0, 0));
        int thing = kind == 0 ? one.star(64, 50, 0) : kind == 2 ? one.flare(239, p(0, 20), 11, 0)
            : kind == 3 ? one.lamp(p(0, 20), 11, 1, 0) : one.flies(kind, 239, p(0, 20), 11, STILL);
        one.tell(0, 0, 64050, 64050, 1);
        due(one.fits(0, thing), 0, "it fits", said, kind);
        due(one.office(0, 0, 0, 2), said == kind ? 0 : 1, "one kind fits", said, kind);
        // What is there, but doesn't fit, doesn't count.
        for (int other = 0; other < 6; other++) if (other != kind) thing(one, other, p(20, 0));
        due(one.fits(0, NONE), 1, "it alone fits");
        due(one.office(0, 0, 0, 2), said == kind ? 0 : 1, "all kinds there, one fits", said, kind);
      }
    }
  }

  private static void grown() {
    says(30, "brought to 1 .. 99");
    int[][] sums = {{0, 1}, {1, 1}, {2, 2}, {98, 98}, {99, 99}, {100, 99}, {9999, 99}};
    for (int[] s : sums) due(growing("" + s[0], 1, 0, 0, 0), s[1], s[0]);
    due(growing("0-1", 1, 0, 0, 0), 1, "below 0");
    due(growing("0-9999*9999", 1, 0, 0, 0), 1, "far below 0");
    due(growing("9999*9999", 1, 0, 0, 0), 99, "far above");
    says(30, "GROWN are LIGHTS by grow (minute, way, slope 0)");
    due(growing("minute+way+slope+3", 9, 1, 99, 99), 3, "0 each");
    due(growing("lights", 1, 1, 99, 99), 1, "least lights");
    due(growing("lights", 9, 1, 99, 99), 9, "greatest lights");
    due(growing("days", 9, 1, 99, 0), 99, "greatest days");
    due(growing("papers", 9, 1, 0, 99), 99, "greatest papers");
    due(growing("days+5", 9, 1, 0, 99), 5, "least days");
    due(growing("papers+5", 9, 1, 99, 0), 5, "least papers");
    due(growing("hull+5", 9, 0, 99, 99), 5, "no hull");
    due(growing("hull+5", 9, 1, 99, 99), 6, "a hull");
    MarshLights o = ruled("grow minute+way+slope+3;say lamp if way=9;");
    o.seer(0);
    o.tell(0, 5005, 9009, 9009, 1);
    due(o.office(0, 1, 1, 0), 3, "a telling's own way");
    due(o.grown(1, 0, 0, 0), 3, "0 each also behind that");
    says(30, "without grow as they were");
    MarshLights m = ruled("say star if 1=1;");
    MarshLights n = new MarshLights();
    for (int lights = 1; lights <= 9; lights++) {
      due(m.grown(lights, 1, 99, 99), lights, "clauses alone");
      due(n.grown(lights, 0, 0, 0), lights, "no rules");
    }
    says(30, "NONE if they can't be (hull 0, 1)");
    int[][] cant = {{0, 0, 0, 0}, {10, 0, 0, 0}, {1, -1, 0, 0}, {1, 2, 0, 0}, {1, 0, -1, 0}, {1, 0, 100, 0}, {1, 0, 0, -1},
        {1, 0, 0, 100}};
    for (int[] c : cant) due(n.grown(c[0], c[1], c[2], c[3]), NONE, c[0], c[1], c[2], c[3]);
  }

  private static void before() {
    says(31, "Of LIGHTS 1 .. 9: which (bits, from LIGHTS 1 on) are GROWN to so many");
    MarshLights n = new MarshLights();
    for (int grown = 1; grown <= 99; grown++) {
      due(n.before(grown, 1, 99, 99), grown <= 9 ? 1 << (grown - 1) : 0, "without grow", grown);
    }
    due(ruled("grow 7;").before(7, 0, 0, 0), 511, "all");
    due(ruled("grow 7;").before(6, 0, 0, 0), 0, "none");
    due(ruled("grow lights*20;").before(99, 0, 0, 0), 0b111110000, "brought to 99");
    due(ruled("grow lights*20;").before(80, 0, 0, 0), 0b1000, "one of them");
    due(ruled("grow lights-5;").before(1, 0, 0, 0), 0b000111111, "brought to 1");
    due(ruled("grow lights-5;").before(4, 0, 0, 0), 0b100000000, "the ninth");
    due(ruled("grow days-lights*papers+hull;").before(10, 1, 13, 4), 0b1, "its hull, days, papers");
    due(ruled("grow days-lights*papers+hull;").before(10, 0, 13, 3), 0b1, "its hull, days, papers");
    due(ruled("grow minute+way+slope+4;").before(4, 0, 0, 0), 511, "0 each");
    says(31, "NONE if they can't be.");
    int[][] cant = {{0, 0, 0, 0}, {100, 0, 0, 0}, {1, -1, 0, 0}, {1, 2, 0, 0}, {1, 0, -1, 0}, {1, 0, 100, 0}, {1, 0, 0, -1},
        {1, 0, 0, 100}};
    for (int[] c : cant) due(n.before(c[0], c[1], c[2], c[3]), NONE, c[0], c[1], c[2], c[3]);
  }

  // ---- 32: draw ----

  /** The eight lots of the n-th telling of a seed. */
  private static long[] lots(long seed, int n) {
    long x = seed;
    long[] lots = new long[8];
    for (int i = 0; i < 8 * (n + 1); i++) {
      x = (x * 1103515245L + 12345L) & 0x7fffffffL;
      lots[i % 8] = x / 256;
    }
    return lots;
  }

  private static void drawMinutes() {
    says(32, "by how much later the second is (below 10; 239 at most)");
    boolean cut = false;
    boolean just = false;
    for (int seed = 0; seed < 4000; seed++) {
      long[] lot = lots(seed, 0);
      int first = (int) (lot[2] % 240);
      int later = (int) (lot[3] % 10);
      if (first < 230 && seed > 30) continue;
      MarshLights m = seers(0);
      m.star(100, 100, 0);
      due(m.draw(seed, 1), 1, "seed", seed);
      due(m.telling(0, 1), first, "first", seed);
      due(m.telling(0, 2), Math.min(239, first + later), "second", seed);
      cut |= first + later > 239;
      just |= first + later == 239;
    }
    due(cut, true, "some would be later");
    due(just, true, "some are just 239");
    says(32, "LIGHTS (below 9, and 1), HULL (below 2)");
    int seen = 0;
    for (int seed = 0; seed < 60; seed++) {
      MarshLights m = seers(0);
      m.star(100, 100, 0);
      m.draw(seed, 1);
      due(m.telling(0, 7), lots(seed, 0)[6] % 9 + 1, "lights", seed);
      due(m.telling(0, 8), lots(seed, 0)[7] % 2, "hull", seed);
      seen |= 1 << m.telling(0, 7);
    }
    due(seen, 0b1111111110, "1 to 9 all come");
  }

  private static void drawWays() {
    says(32, "off for all WAYS (below 2A + 1, less A), off for SLOPES (below 2B + 1, less B)"
        + " .. (WAYS by the rest by 256, SLOPES brought to 0 .. 999)");
    int[][] offs = {{8, 20}, {0, 0}, {32, 200}, {1, 1}};
    int[][] stars = {{0, 0}, {255, 999}, {128, 500}, {3, 199}, {250, 800}};
    for (int[] off : offs) {
      for (int[] star : stars) {
        for (int seed = 0; seed < 40; seed++) {
          MarshLights m = seers(0);
          m.star(star[0], star[1], 0);
          m.off(off[0], off[1]);
          m.draw(seed, 1);
          long[] lot = lots(seed, 0);
          long way = Math.floorMod(star[0] + lot[4] % (2 * off[0] + 1) - off[0], 256L);
          long slope = Math.max(0, Math.min(999, star[1] + lot[5] % (2 * off[1] + 1) - off[1]));
          due(m.telling(0, 3), way, "way at first", star[0], seed);
          due(m.telling(0, 5), way, "way at last", star[0], seed);
          due(m.telling(0, 4), slope, "slope at first", star[1], seed);
          due(m.telling(0, 6), slope, "slope at last", star[1], seed);
        }
      }
    }
    // A slope below 0 is brought to 0, too.
    MarshLights m = seers(p(0, 0));
    hill(m, 0, 0, 1);
    point(m, p(10, 0), 0);
    due(m.seen(0, 0, 0, 1), -20, "below 0");
    due(m.draw(3, 20), 20, "all are told");
    for (int i = 0; i < 20; i++) due(m.telling(i, 4) + m.telling(i, 6), 0, "slope", i);
  }

  private static void drawFull() {
    says(32, "how many were told (none beyond 60)");
    MarshLights m = seers(0);
    m.star(100, 100, 0);
    for (int i = 0; i < 55; i++) m.tell(0, 0, 0, 0, 1);
    due(m.draw(5, 20), 5, "five of twenty");
    due(m.count(3), 60, "60");
    for (int i = 0; i < 5; i++) due(m.telling(55 + i, 1), lots(5, i)[2] % 240, "the first five", i);
    due(m.draw(5, 20), 0, "none beyond 60");
    due(m.draw(5, 1), 0, "none beyond 60");
    due(m.count(3), 60, "60");
    m.undo();
    due(m.draw(6, 2), 1, "one more");
    due(m.telling(59, 1), lots(6, 0)[2] % 240, "the first of two");
    says(32, "n TELLINGS (1 .. 20) are drawn");
    MarshLights n = seers(0);
    n.star(100, 100, 0);
    due(n.draw(1, 0), NONE, "0");
    due(n.draw(1, 1), 1, "1");
    due(n.draw(1, 20), 20, "20");
    due(n.draw(1, 21), NONE, "21");
    due(n.count(3), 21, "count");
    says(32, "x comes of a seed (0 .. 1000000)");
    due(n.draw(-1, 1), NONE, "-1");
    due(n.draw(0, 1), 1, "0");
    due(n.telling(21, 1), lots(0, 0)[2] % 240, "of seed 0");
    due(n.draw(1000000, 1), 1, "1000000");
    due(n.telling(22, 1), lots(1000000, 0)[2] % 240, "of seed 1000000");
    due(n.draw(1000001, 1), NONE, "1000001");
    due(n.count(3), 23, "count");
    says(32, "or there is no THING or no SEER");
    MarshLights none = new MarshLights();
    due(none.draw(1, 1), NONE, "neither");
    none.star(1, 1, 1);
    due(none.draw(1, 1), NONE, "no seer");
    due(seers(0).draw(1, 1), NONE, "no thing");
    none.seer(0);
    due(none.draw(1, 1), 1, "both");
  }

  private static void drawHidden() {
    says(32, "if the THING is SHOWN in both MINUTES, it is told, else nothing");
    for (int seed = 0; seed < 100; seed++) {
      MarshLights m = seers(p(0, 0));
      m.flies(1, 100140, p(16, 0), 2, STILL);
      m.lamp(p(0, 16), 1, 3, 1);
      int told = m.draw(seed, 20);
      int k = 0;
      for (int i = 0; i < 20; i++) {
        long[] lot = lots(seed, i);
        int first = (int) (lot[2] % 240);
        int last = Math.min(239, first + (int) (lot[3] % 10));
        boolean shown = lot[0] % 2 == 0 ? first >= 100 && last <= 140 : first % 3 == 1 && last % 3 == 1;
        if (!shown) continue;
        due(m.telling(k, 1), first, "first", seed, i);
        due(m.telling(k, 2), last, "last", seed, i);
        k++;
      }
      due(told, k, "told", seed);
      due(m.count(3), k, "count", seed);
    }
    MarshLights h = seers(p(0, 0));
    point(h, p(16, 0), 2);
    hill(h, 8, 0, 9);
    due(h.draw(1, 20), 0, "hidden");
    due(h.count(3), 0, "hidden");
  }

  private static void lots() {
    says(32, "A TELLING is drawn by eight lots, in turn: a THING, a SEER, the first MINUTE");
    for (int seed = 0; seed < 60; seed++) {
      MarshLights m = new MarshLights();
      int things = seed % 12 + 1;
      int seers = seed % 20 + 1;
      for (int i = 0; i < seers; i++) m.seer(i);
      for (int i = 0; i < things; i++) m.star(20 * i, 80 * i + 50, 0);
      m.off(0, 0);
      due(m.draw(seed * 16949, 3), 3, "seed", seed);
      for (int i = 0; i < 3; i++) {
        long[] lot = lots(seed * 16949L, i);
        due(m.telling(i, 3), 20 * (lot[0] % things), "thing", seed, i);
        due(m.telling(i, 4), 80 * (lot[0] % things) + 50, "thing", seed, i);
        due(m.telling(i, 0), lot[1] % seers, "seer", seed, i);
        due(m.telling(i, 1), lot[2] % 240, "first", seed, i);
      }
    }
  }

  // ---- 33: count ----

  private static void count() {
    says(33, "0 HILLS, 1 SEERS, 2 THINGS, 3 TELLINGS, 4 CLAUSES, 5 A, 6 B, 7 bytes of the text. NONE for others.");
    MarshLights m = ruled("say none if 1=1;".repeat(12));
    for (int i = 0; i < 9; i++) m.hill(0, 0, 1);
    for (int i = 0; i < 21; i++) m.seer(0);
    for (int i = 0; i < 13; i++) m.star(0, 0, 0);
    for (int i = 0; i < 61; i++) m.tell(0, 0, 0, 0, 1);
    for (int i = 0; i < 21; i++) m.feed(0, 0, 0, 0, 0);
    m.off(32, 200);
    int[] want = {8, 20, 12, 60, 12, 32, 200, 400};
    for (int i = 0; i < 8; i++) due(m.count(i), want[i], "all full", i);
    due(m.count(-1), NONE, "others");
    due(m.count(8), NONE, "others");
    due(m.count(Integer.MAX_VALUE), NONE, "others");
    due(m.count(Integer.MIN_VALUE), NONE, "others");
  }
}
