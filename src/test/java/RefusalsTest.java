/**
 * "What is refused changes nothing." and "NONE if ...": of each argument of each call the least and the greatest that
 * are taken, those just beyond and the farthest, and what a refused call leaves, on an object with something of
 * everything and on full ones.
 */
public final class RefusalsTest {
  private static final int NONE = MarshLights.NONE;
  private static final int VOID = MarshLights.VOID;
  private static final int STILL = 2020;

  interface Face { long on(MarshLights m, int[] a); }

  private static int promise;
  private static String face;
  private static Face call;
  private static Twins.Setup setup;
  private static long refusal;
  private static int wrong;
  private static int looked;

  private static int p(int x, int y) { return x * 64 + y; }

  private static void fail(int[] a, String what) {
    wrong++;
    System.out.println("promise " + promise + ": " + face + java.util.Arrays.toString(a) + " " + what);
  }

  private static void of(int number, String name, Face f, long none) {
    promise = number;
    face = name;
    call = f;
    refusal = none;
    setup = Twins.RICH;
  }

  private static void refused(int... a) {
    looked++;
    String what = Twins.wrongOf(setup, m -> call.on(m, a), refusal);
    if (what != null) fail(a, what);
  }

  private static void taken(long want, int... a) {
    looked++;
    long got = call.on(Twins.made(setup), a);
    if (got != want) fail(a, "answered " + got + ", due is " + want);
  }

  private static void takenAtAll(int... a) {
    looked++;
    if (call.on(Twins.made(setup), a) == refusal) fail(a, "is refused, but can be");
  }

  /** In calls that change something: any answer but the refusal, and it is there then. */
  private static void edge(int[] base, int i, int least, int greatest) {
    int[] ends = {least, greatest};
    for (int n : ends) takenAtAll(with(base, i, n));
    beyond(base, i, least, greatest);
  }

  private static void beyond(int[] base, int i, int least, int greatest) {
    int[] beyond = {least - 1, Integer.MIN_VALUE, greatest + 1, Integer.MAX_VALUE};
    for (int n : beyond) refused(with(base, i, n));
  }

  private static int[] with(int[] base, int i, int n) {
    int[] a = base.clone();
    a[i] = n;
    return a;
  }

  private static int[] row(int... a) { return a; }

  /** MINUTES as first * 1000 + last: each 0 .. 239, the second no less. */
  private static void minutes(int[] base, int i) {
    int[] can = {0, 239, 1001, 238239, 239239, 120120};
    int[] cant = {-1, 240, 999, 1000, 1240, 2001, 239238, 239240, 240239, 240240, 240000, 1000000, -1000, -999,
        Integer.MIN_VALUE, Integer.MAX_VALUE};
    for (int n : can) takenAtAll(with(base, i, n));
    for (int n : cant) refused(with(base, i, n));
  }

  public static void main(String[] args) {
    hill();
    seer();
    star();
    flies();
    flare();
    lamp();
    ground();
    at();
    seen();
    tell();
    undo();
    off();
    telling();
    fits();
    left();
    joined();
    cross();
    out();
    outs();
    size();
    hulls();
    ask();
    feed();
    end();
    rules();
    office();
    grown();
    before();
    draw();
    count();
    System.out.println(looked + " calls, " + wrong + " wrong");
    if (wrong != 0) System.exit(1);
  }

  private static void hill() {
    of(2, "hill", (m, a) -> m.hill(a[0], a[1], a[2]), NONE);
    edge(row(100, 200, 30), 0, 0, 4095);
    edge(row(100, 200, 30), 1, 0, 4095);
    edge(row(100, 200, 30), 2, 1, 60);
    taken(2, 0, 4095, 60);
    setup = Twins.EMPTY;
    refused(0, 4096, 30);
    taken(0, 4095, 0, 1);
    setup = Twins.HILLS_FULL;
    refused(0, 4095, 60);
    refused(100, 100, 1);
  }

  private static void seer() {
    of(3, "seer", (m, a) -> m.seer(a[0]), NONE);
    edge(row(5), 0, 0, 4095);
    taken(3, 4095);
    setup = Twins.EMPTY;
    refused(-1);
    taken(0, 0);
    setup = Twins.SEERS_FULL;
    refused(0);
    refused(4095);
  }

  private static void star() {
    of(4, "star", (m, a) -> m.star(a[0], a[1], a[2]), NONE);
    edge(row(5, 5, 5), 0, 0, 255);
    edge(row(5, 5, 5), 1, 0, 999);
    edge(row(5, 5, 5), 2, -9, 9);
    taken(6, 255, 999, -9);
    setup = Twins.EMPTY;
    refused(256, 0, 0);
    taken(0, 0, 0, 0);
    setup = Twins.THINGS_FULL;
    refused(0, 0, 0);
    refused(100, 40, 3);
  }

  private static void flies() {
    of(5, "flies", (m, a) -> m.flies(a[0], a[1], a[2], a[3], a[4]), NONE);
    int[] kinds = {1, 4, 5};
    int[] others = {-1, 0, 2, 3, 6, 7, Integer.MIN_VALUE, Integer.MAX_VALUE};
    for (int kind : kinds) taken(6, kind, 5010, 100, 50, STILL);
    for (int kind : others) refused(kind, 5010, 100, 50, STILL);
    minutes(row(1, 0, 100, 50, STILL), 1);
    edge(row(4, 5010, 100, 50, STILL), 2, 0, 4095);
    edge(row(5, 5010, 100, 50, STILL), 3, 0, 255);
    edge(row(1, 5010, 100, 50, STILL), 4, 0, 4040);
    int[] speeds = {40, 4000, 100, 1940, 2020};
    int[] none = {41, 99, 141, 199, 3941, 3999, 4041, 4099, 4100, -100, -20};
    for (int n : speeds) takenAtAll(1, 5010, 100, 50, n);
    for (int n : none) refused(1, 5010, 100, 50, n);
    setup = Twins.THINGS_FULL;
    for (int kind : kinds) refused(kind, 5010, 100, 50, STILL);
  }

  private static void flare() {
    of(6, "flare", (m, a) -> m.flare(a[0], a[1], a[2], a[3]), NONE);
    minutes(row(0, 100, 50, 3), 0);
    edge(row(5010, 100, 50, 3), 1, 0, 4095);
    edge(row(5010, 100, 50, 3), 2, 0, 255);
    edge(row(5010, 100, 50, 3), 3, 0, 20);
    taken(6, 239239, 4095, 255, 20);
    setup = Twins.THINGS_FULL;
    refused(0, 0, 0, 0);
    refused(239, 100, 200, 1);
  }

  private static void lamp() {
    of(7, "lamp", (m, a) -> m.lamp(a[0], a[1], a[2], a[3]), NONE);
    edge(row(100, 10, 5, 2), 0, 0, 4095);
    edge(row(100, 10, 5, 2), 1, 0, 60);
    edge(row(100, 10, 5, 0), 2, 1, 30);
    edge(row(100, 10, 5, 2), 3, 0, 4);
    edge(row(100, 10, 1, 0), 3, 0, 0);
    edge(row(100, 10, 30, 29), 3, 0, 29);
    edge(row(100, 10, 5, 2), 2, 3, 30);
    refused(100, 10, 0, -1);
    refused(100, 10, -1, -2);
    refused(100, 10, 31, 30);
    taken(6, 4095, 60, 30, 29);
    setup = Twins.THINGS_FULL;
    refused(0, 0, 1, 0);
    refused(100, 10, 5, 2);
  }

  private static void ground() {
    of(8, "ground", (m, a) -> m.ground(a[0]), NONE);
    edge(row(5), 0, 0, 4095);
    setup = Twins.EMPTY;
    edge(row(5), 0, 0, 4095);
  }

  private static void at() {
    of(9, "at", (m, a) -> m.at(a[0], a[1], a[2]), VOID);
    edge(row(1, 90, 0), 0, 1, 2);
    edge(row(1, 100, 3), 0, 0, 5);
    edge(row(1, 100, 0), 1, 0, 239);
    edge(row(1, 100, 3), 1, 0, 239);
    edge(row(1, 100, 0), 2, 0, 3);
    edge(row(2, 100, 1), 1, 10, 200);
    edge(row(3, 110, 2), 1, 100, 120);
    setup = Twins.EMPTY;
    refused(0, 0, 3);
    setup = Twins.THINGS_FULL;
    edge(row(1, 100, 3), 0, 0, 11);
  }

  private static void seen() {
    of(10, "seen", (m, a) -> m.seen(a[0], a[1], a[2], a[3]), VOID);
    edge(row(1, 1, 100, 2), 0, 0, 5);
    edge(row(1, 1, 100, 2), 1, 0, 2);
    edge(row(1, 1, 100, 2), 2, 0, 239);
    edge(row(1, 1, 100, 0), 2, 0, 239);
    edge(row(1, 1, 100, 2), 3, 0, 3);
    for (int what = 0; what < 4; what += what == 1 ? 2 : 1) edge(row(2, 1, 100, what), 2, 10, 200);
    setup = Twins.EMPTY;
    refused(0, 0, 0, 2);
    setup = Twins.SEERS_FULL;
    edge(row(1, 1, 100, 2), 1, 0, 19);
  }

  private static void tell() {
    of(11, "tell", (m, a) -> m.tell(a[0], a[1], a[2], a[3], a[4]), NONE);
    edge(row(1, 5010, 100100, 100100, 5), 0, 0, 2);
    minutes(row(1, 0, 100100, 100100, 5), 1);
    edge(row(1, 5010, 100100, 100100, 5), 2, 0, 255999);
    edge(row(1, 5010, 100100, 100100, 5), 3, 0, 255999);
    edge(row(1, 5010, 100100, 100100, 5), 4, 1, 19);
    edge(row(1, 5010, 100100, 100100, 5), 4, 1, 9);
    edge(row(1, 5010, 100100, 100100, 15), 4, 11, 19);
    int[] cant = {0, 10, 20, 21, 29, 91, 101, -1, -9, -11};
    for (int lights : cant) refused(1, 5010, 100100, 100100, lights);
    refused(1, 5010, -999, 100100, 5);
    refused(1, 5010, 100100, -999, 5);
    setup = Twins.EMPTY;
    refused(0, 5010, 100100, 100100, 5);
    setup = Twins.TELLINGS_FULL;
    refused(1, 5010, 100100, 100100, 5);
    refused(0, 0, 0, 0, 1);
  }

  private static void undo() {
    of(12, "undo", (m, a) -> m.undo(), NONE);
    setup = Twins.EMPTY;
    refused();
    setup = Twins.TELLINGS_FULL;
    taken(59);
  }

  private static void off() {
    of(13, "off", (m, a) -> m.off(a[0], a[1]) ? 1 : 0, 0);
    edge(row(5, 5), 0, 0, 32);
    edge(row(5, 5), 1, 0, 200);
    taken(1, 32, 200);
    taken(1, 0, 0);
    refused(33, 201);
    refused(-1, -1);
    setup = Twins.EMPTY;
    refused(33, 0);
    refused(0, 201);
  }

  private static void telling() {
    of(14, "telling", (m, a) -> m.telling(a[0], a[1]), NONE);
    setup = Twins.TELLINGS_FULL;
    edge(row(5, 0), 0, 0, 59);
    edge(row(5, 0), 1, 0, 8);
    setup = Twins.EMPTY;
    refused(0, 0);
  }

  private static void fits() {
    of(15, "fits", (m, a) -> m.fits(a[0], a[1]), NONE);
    setup = Twins.TELLINGS_FULL;
    edge(row(5, NONE), 0, 0, 59);
    refused(0, -2);
    refused(0, Integer.MIN_VALUE);
    refused(0, 12);
    refused(0, 32);
    refused(0, Integer.MAX_VALUE);
    setup = Twins.EMPTY;
    refused(0, NONE);
    refused(0, 0);
  }

  private static void left() {
    of(16, "left", (m, a) -> m.left(a[0]), NONE);
    MarshLights m = Twins.made(setup);
    int left = m.left(NONE);
    for (int k = 0; k < left; k++) takenAtAll(k);
    beyond(row(0), 0, -1, left - 1);
    setup = Twins.EMPTY;
    taken(0, NONE);
    refused(0);
    refused(-2);
  }

  /** One number of two tellings of unlike seers, from the same minute on. */
  private static void joined() {
    of(18, "joined", (m, a) -> m.joined(a[0], a[1]), NONE);
    setup = m -> {
      Twins.RICH.make(m);
      for (int i = m.count(3); i < 60; i++) m.tell(i == 30 ? 1 : 0, 4009, 100100, 100100, 1);
    };
    taken(0, 30, 59);
    taken(0, 59, 30);
    beyond(row(30, 40), 1, 0, 59);
    beyond(row(30, 30), 0, 0, 59);
    refused(40, 41);
    refused(30, 30);
    setup = Twins.EMPTY;
    refused(0, 1);
  }

  private static void cross() {
    of(19, "cross", (m, a) -> m.cross(a[0], a[1], a[2]), NONE);
    setup = m -> {
      m.seer(p(0, 10));
      m.seer(p(20, 10));
      for (int i = 0; i < 60; i++) m.tell(i % 2, 5009, i % 2 * 128000 + 10, 0, 1);
      m.tell(0, 5009, 10, 0, 1);
    };
    edge(row(0, 1, 0), 2, 0, 5);
    edge(row(30, 1, 0), 0, 0, 58);
    beyond(row(30, 1, 0), 0, 0, 59);
    beyond(row(30, 1, 0), 1, 0, 59);
    takenAtAll(30, 59, 0);
    for (int what = 0; what < 6; what++) {
      refused(30, 32, what);
      refused(30, 30, what);
    }
    setup = Twins.EMPTY;
    refused(0, 1, 0);
  }

  private static void out() {
    of(20, "out", (m, a) -> m.out(a[0], a[1]), NONE);
    setup = m -> {
      Twins.SEERS_FULL.make(m);
      for (int i = 6; i < 12; i++) m.flare(1010, p(10, 10), 200, 2);
    };
    edge(row(8, 8), 0, 6, 11);
    edge(row(8, 8), 1, 0, 19);
    for (int thing = 0; thing < 6; thing++) if (thing != 4) refused(thing, 0);
    setup = Twins.EMPTY;
    refused(0, 0);
  }

  private static void outs() {
    of(21, "outs", (m, a) -> m.outs(a[0], a[1], a[2], a[3]), NONE);
    edge(row(1, 10015, 60, 5), 0, 0, 2);
    edge(row(1, 10015, 60, 5), 2, 0, 255);
    edge(row(1, 10015, 60, 5), 3, 0, 20);
    int[] can = {1, 20, 1002, 1021, 100120, 219239, 238239};
    int[] cant = {0, 21, 22, 1001, 1000, 1022, 2001, 20000, 218239, 239239, 239240, 239259, 240241, -1, -999,
        Integer.MIN_VALUE, Integer.MAX_VALUE};
    for (int n : can) takenAtAll(1, n, 60, 5);
    for (int n : cant) refused(1, n, 60, 5);
    setup = Twins.EMPTY;
    refused(0, 1, 1, 1);
    setup = Twins.SEERS_FULL;
    edge(row(1, 10015, 60, 5), 0, 0, 19);
    setup = Twins.THINGS_FULL;
    takenAtAll(1, 10015, 60, 5);
  }

  private static void size() {
    of(22, "size", (m, a) -> m.size(a[0], a[1], a[2], a[3]), NONE);
    setup = Twins.TELLINGS_FULL;
    edge(row(5, 1, 100, 100), 0, 0, 59);
    edge(row(5, 1, 100, 100), 2, 1, 10000);
    edge(row(5, 1, 100, 100), 3, 1, 10000);
    beyond(row(5, 1, 100, 100), 1, 0, 5);
    takenAtAll(5, 5, 100, 100);
    refused(5, 0, 100, 100);
    setup = Twins.EMPTY;
    refused(0, 0, 1, 1);
    setup = m -> {
      Twins.RICH.make(m);
      int[] minutes = {9, 10, 200, 201};
      for (int n : minutes) m.tell(0, n * 1001, 5005, 5005, 1);
    };
    int first = Twins.made(setup).count(3) - 4;
    refused(first, 2, 100, 100);
    takenAtAll(first + 1, 2, 100, 100);
    takenAtAll(first + 2, 2, 100, 100);
    refused(first + 3, 2, 100, 100);
  }

  private static void hulls() {
    of(23, "hulls", (m, a) -> m.hulls(a[0], a[1]), NONE);
    edge(row(3, 0), 0, 1, 9);
    edge(row(3, 1), 0, 1, 9);
    edge(row(3, 0), 1, 0, 1);
    setup = Twins.EMPTY;
    taken(0, 1, 0);
    taken(0, 9, 1);
    refused(0, 0);
    refused(10, 1);
  }

  private static void ask() {
    of(24, "ask", (m, a) -> m.ask(a[0]), NONE);
    setup = m -> {
      Twins.RICH.make(m);
      m.star(60, 50, 0);
      m.star(69, 50, 8);
      m.tell(0, 3, 60050, 65050, 1);
    };
    edge(row(1), 0, 0, 2);
    setup = Twins.EMPTY;
    for (int what = -1; what < 4; what++) refused(what);
  }

  private static void feed() {
    of(25, "feed", (m, a) -> m.feed(a[0], a[1], a[2], a[3], a[4]), NONE);
    setup = Twins.TEXT_FULL;
    refused(0, 0, 0, 0, 0);
    refused(0x67726f77, 0x20313b20, -1, Integer.MIN_VALUE, Integer.MAX_VALUE);
    for (int n = 381; n < 400; n += 6) {
      int length = n;
      setup = m -> {
        Twins.TEXT_FULL.make(m);
        m.end(length);
      };
      refused(0x20202020, 0, 0, 0, 0);
    }
    setup = m -> {
      Twins.TEXT_FULL.make(m);
      m.end(380);
    };
    taken(400, 0, 0, 0, 0, 0);
    setup = Twins.EMPTY;
    taken(20, 0, 0, 0, 0, 0);
  }

  private static void end() {
    of(26, "end", (m, a) -> m.end(a[0]) ? 1 : 0, 0);
    setup = Twins.TEXT_FULL;
    edge(row(5), 0, 0, 400);
    setup = Twins.RICH;
    edge(row(5), 0, 0, 23);
    setup = Twins.EMPTY;
    edge(row(0), 0, 0, 0);
    setup = m -> {
      Twins.RICH.make(m);
      m.end(5);
    };
    refused(6);
  }

  private static void rules() {
    of(28, "rules", (m, a) -> m.rules(), NONE);
    String[] texts = {"", " \n ", "grow", "grow 1;grow 2;", "say star if 1=1;say", "say flare if 1=1;grow 8;#",
        "grow 10000;", "grow 9;say lamp if 1;", "say none if 0=0;".repeat(13)};
    for (String text : texts) {
      setup = m -> {
        Twins.RICH.make(m);
        m.end(0);
        Twins.write(m, text);
      };
      refused();
      of(27, "fault of " + text, (m, a) -> m.fault() == NONE ? -7 : 7, 7);
      setup = m -> {
        Twins.RICH.make(m);
        m.end(0);
        Twins.write(m, text);
      };
      refused();
      of(28, "rules", (m, a) -> m.rules(), NONE);
    }
    setup = Twins.RICH;
    taken(1);
    of(27, "fault", (m, a) -> m.fault(), NONE);
    refused();
  }

  private static void office() {
    of(29, "office", (m, a) -> m.office(a[0], a[1], a[2], a[3]), NONE);
    setup = Twins.TELLINGS_FULL;
    edge(row(5, 50, 50, 0), 0, 0, 59);
    edge(row(5, 50, 50, 0), 1, 0, 99);
    edge(row(5, 50, 50, 0), 2, 0, 99);
    beyond(row(5, 50, 50, 0), 3, 0, 2);
    takenAtAll(5, 50, 50, 2);
    setup = Twins.EMPTY;
    for (int what = 0; what < 3; what++) refused(0, 0, 0, what);
  }

  private static void grown() {
    of(30, "grown", (m, a) -> m.grown(a[0], a[1], a[2], a[3]), NONE);
    Twins.Setup[] both = {Twins.RICH, Twins.EMPTY};
    for (Twins.Setup one : both) {
      setup = one;
      edge(row(5, 0, 50, 50), 0, 1, 9);
      edge(row(5, 0, 50, 50), 1, 0, 1);
      edge(row(5, 0, 50, 50), 2, 0, 99);
      edge(row(5, 0, 50, 50), 3, 0, 99);
    }
  }

  private static void before() {
    of(31, "before", (m, a) -> m.before(a[0], a[1], a[2], a[3]), NONE);
    Twins.Setup[] both = {Twins.RICH, Twins.EMPTY};
    for (Twins.Setup one : both) {
      setup = one;
      edge(row(5, 0, 50, 50), 0, 1, 99);
      edge(row(5, 0, 50, 50), 1, 0, 1);
      edge(row(5, 0, 50, 50), 2, 0, 99);
      edge(row(5, 0, 50, 50), 3, 0, 99);
    }
  }

  private static void draw() {
    of(32, "draw", (m, a) -> m.draw(a[0], a[1]), NONE);
    edge(row(5, 5), 0, 0, 1000000);
    edge(row(5, 5), 1, 1, 20);
    setup = m -> m.star(1, 1, 1);
    refused(0, 1);
    setup = m -> m.seer(1);
    refused(0, 1);
    setup = Twins.EMPTY;
    refused(0, 1);
    // With 60 tellings none is told, and nothing else changes.
    of(32, "draw with 60 tellings", (m, a) -> m.draw(a[0], a[1]), 0);
    setup = Twins.TELLINGS_FULL;
    refused(77, 20);
    refused(0, 1);
    of(32, "draw", (m, a) -> m.draw(a[0], a[1]), NONE);
    setup = Twins.TELLINGS_FULL;
    refused(77, 21);
    refused(-1, 1);
  }

  private static void count() {
    of(33, "count", (m, a) -> m.count(a[0]), NONE);
    edge(row(5), 0, 0, 7);
    setup = Twins.EMPTY;
    edge(row(5), 0, 0, 7);
  }
}
