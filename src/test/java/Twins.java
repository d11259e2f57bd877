import java.util.HashMap;
import java.util.Map;

/**
 * What a refused call leaves: two objects are made alike, the one gets the call, and both must answer alike
 * whatever is asked then. No object is used for more than 512 calls.
 */
final class Twins {
  static final int NONE = MarshLights.NONE;
  static final int VOID = MarshLights.VOID;

  interface Setup { void make(MarshLights m); }
  interface Call { long on(MarshLights m); }

  private static final int PARTS = 6;
  private static final Map<Setup, long[][]> ALONE = new HashMap<>();

  static int p(int x, int y) { return x * 64 + y; }

  static int speed(int dx, int dy) { return (dx + 20) * 100 + dy + 20; }

  static MarshLights made(Setup setup) {
    MarshLights m = new MarshLights();
    setup.make(m);
    return m;
  }

  /** Puts a text behind what stands, by feeds that are cut to its length. */
  static boolean write(MarshLights m, String text) {
    int length = m.count(7);
    for (int i = 0; i < text.length(); i += 20) {
      int[] n = new int[5];
      for (int j = 0; j < 20; j++) n[j / 4] = (n[j / 4] << 8) | (i + j < text.length() ? text.charAt(i + j) : ' ');
      if (m.feed(n[0], n[1], n[2], n[3], n[4]) == NONE) return false;
    }
    return m.end(length + text.length());
  }

  static boolean rule(MarshLights m, String text) { return write(m, text) && m.rules() != NONE; }

  // ---- objects with something of everything, and with everything full ----

  static final Setup EMPTY = m -> { };

  static final Setup RICH = m -> {
    m.hill(p(20, 10), p(22, 30), 20);
    m.hill(p(40, 5), p(30, 8), 12);
    m.seer(p(5, 20));
    m.seer(p(45, 20));
    m.seer(p(21, 20));
    m.star(100, 40, 3);
    m.flies(1, 239, p(5, 30), 40, speed(3, -1));
    m.flies(4, 10200, p(40, 30), 90, speed(-5, 2));
    m.flies(5, 100120, p(30, 30), 120, speed(1, 1));
    m.flare(50130, p(33, 20), 100, 2);
    m.lamp(p(50, 20), 5, 3, 1);
    m.off(9, 30);
    m.draw(77, 20);
    m.tell(0, 4009, 5005, 9009, 3);
    m.tell(1, 4007, 130020, 128030, 14);
    rule(m, "grow lights*days+hull-papers;say lamp if minute<100;say none if way<slope and days=3;");
    write(m, "grow 7;say star if 1=1;");
  };

  static final Setup HILLS_FULL = m -> {
    RICH.make(m);
    for (int i = 2; i < 8; i++) m.hill(p(i, 0), p(i, 5), 10 * (i - 1));
  };

  static final Setup SEERS_FULL = m -> {
    RICH.make(m);
    for (int i = 3; i < 20; i++) m.seer(p(i, i));
  };

  static final Setup THINGS_FULL = m -> {
    RICH.make(m);
    for (int i = 6; i < 12; i++) m.star(20 * i, i, i - 6);
  };

  static final Setup TELLINGS_FULL = m -> {
    RICH.make(m);
    for (int i = m.count(3); i < 60; i++) m.tell(i % 3, i, i * 4010, 4010, i % 9 + 1);
  };

  static final Setup TEXT_FULL = m -> {
    RICH.make(m);
    m.end(0);
    write(m, "say flare if 1=1 ;".repeat(10) + " ".repeat(220));
  };

  // ---- what is asked of both ----

  private static final class Answers {
    final long[] row = new long[420];
    int n;
    void add(long answer) { row[n++] = answer; }
    void add(boolean answer) { add(answer ? 1 : 0); }
  }

  private static void askOfLand(MarshLights m, Answers a) {
    for (int i = 0; i < 8; i++) a.add(m.count(i));
    for (int i = 0; i < 390; i++) a.add(m.ground(i * 4095 / 389));
  }

  private static void askOfThings(MarshLights m, Answers a) {
    for (int thing = 0; thing < 12; thing++) {
      for (int minute = 0; minute < 240; minute += 119) {
        for (int what = 0; what < 4; what++) {
          a.add(m.at(thing, minute, what));
          a.add(m.seen(thing, (thing + minute) % 3, minute, what));
        }
      }
      a.add(m.out(thing, 0));
      a.add(m.out(thing, 1));
    }
    for (int seer = 0; seer < 20; seer++) a.add(m.outs(seer, 30035, 60, 5));
  }

  private static void askOfTellings(MarshLights m, Answers a, int from) {
    for (int i = from; i < from + 20; i++) {
      for (int what = 0; what < 9; what++) a.add(m.telling(i, what));
      a.add(m.fits(i, NONE));
      a.add(m.fits(i, 0));
      for (int what = 0; what < 3; what++) a.add(m.office(i, 3, 4, what));
      a.add(m.size(i, 1, 100, 7));
      a.add(m.joined(i, i + 1));
    }
    for (int k = -1; k < 4; k++) a.add(m.left(k));
    a.add(m.fewest());
    for (int what = 0; what < 6; what++) a.add(m.cross(20, 21, what) + 7919L * m.cross(0, 1, what));
    for (int lights = 1; lights < 10; lights++) a.add(m.hulls(lights, lights % 2));
    for (int what = 0; what < 3; what++) a.add(m.ask(what));
  }

  private static void askOfRules(MarshLights m, Answers a) {
    for (int lights = 1; lights < 10; lights++) {
      for (int days = 0; days < 100; days += 9) a.add(m.grown(lights, days % 2, days, 99 - days));
    }
    for (int grown = 1; grown < 100; grown += 7) a.add(m.before(grown, 1, 3, 2));
    a.add(m.fault());
    for (int what = 0; what < 8; what++) a.add(m.count(what));
    a.add(m.end(1000));
    a.add(m.rules());
    for (int what = 0; what < 8; what++) a.add(m.count(what));
    for (int lights = 1; lights < 10; lights++) a.add(m.grown(lights, 0, 9, 9));
    for (int i = 0; i < 20; i++) a.add(m.office(i, 3, 4, 0));
  }

  /** The calls that change something go on as if the refused one had not come. */
  private static void goOn(MarshLights m, Answers a) {
    a.add(m.hill(p(50, 50), p(52, 52), 33));
    a.add(m.seer(p(51, 49)));
    a.add(m.star(50, 500, 9));
    a.add(m.tell(1, 20025, 150020, 140030, 18));
    a.add(m.undo());
    a.add(m.draw(4711, 20));
    a.add(m.feed(0x73617920, 0x73746172, 0x20696620, 0x313d313b, 0x20202020));
    a.add(m.count(7));
    a.add(m.fault());
    a.add(m.off(0, 0));
    a.add(m.left(NONE));
    a.add(m.ground(p(51, 51)));
    for (int what = 0; what < 8; what++) a.add(m.count(what));
    for (int i = 0; i < 40; i++) {
      for (int what = 0; what < 9; what++) a.add(m.telling(i + 20, what));
    }
  }

  private static long[] answers(MarshLights m, int part) {
    Answers a = new Answers();
    if (part == 0) askOfLand(m, a);
    if (part == 1) askOfThings(m, a);
    if (part == 2) askOfTellings(m, a, 0);
    if (part == 3) askOfTellings(m, a, 40);
    if (part == 4) askOfRules(m, a);
    if (part == 5) goOn(m, a);
    return a.row;
  }

  private static long[][] alone(Setup setup) {
    return ALONE.computeIfAbsent(setup, s -> {
      long[][] rows = new long[PARTS][];
      for (int part = 0; part < PARTS; part++) rows[part] = answers(made(s), part);
      return rows;
    });
  }

  /** Null if the call answers so and leaves all as it was, or what is wrong. */
  static String wrongOf(Setup setup, Call call, long want) {
    for (int part = 0; part < PARTS; part++) {
      MarshLights m = made(setup);
      long got = call.on(m);
      if (got != want) return "answered " + got + ", due is " + want;
      long[] row = answers(m, part);
      long[] due = alone(setup)[part];
      for (int i = 0; i < row.length; i++) {
        if (row[i] != due[i]) return "changes answer " + i + " of part " + part + " from " + due[i] + " to " + row[i];
      }
    }
    return null;
  }

  private Twins() { }
}
