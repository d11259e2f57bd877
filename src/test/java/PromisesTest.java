/** Each promise by its number: ordinary calls, the edges that the document names, and wrong arguments. */
public final class PromisesTest {
  private static final int NONE = MarshLights.NONE;
  private static final int VOID = MarshLights.VOID;
  private static final int STILL = 2020;

  private static int promise;
  private static int wrong;
  private static int looked;

  private static void due(String call, long got, long want) {
    looked++;
    if (got != want) {
      wrong++;
      System.out.println("promise " + promise + ": " + call + " answered " + got + ", due is " + want);
    }
  }

  private static void due(String call, boolean got, boolean want) { due(call, got ? 1 : 0, want ? 1 : 0); }

  private static int p(int x, int y) { return x * 64 + y; }

  private static int speed(int dx, int dy) { return (dx + 20) * 100 + dy + 20; }

  /** Puts a text behind what stands, by feeds that are cut to its length. */
  private static boolean write(MarshLights m, String text) {
    int length = m.count(7);
    for (int i = 0; i < text.length(); i += 20) {
      int[] n = new int[5];
      for (int j = 0; j < 20; j++) n[j / 4] = (n[j / 4] << 8) | (i + j < text.length() ? text.charAt(i + j) : ' ');
      if (m.feed(n[0], n[1], n[2], n[3], n[4]) == NONE) return false;
    }
    return m.end(length + text.length());
  }

  private static int faultOf(String text) {
    MarshLights m = new MarshLights();
    if (!write(m, text)) return -99;
    return m.fault();
  }

  private static MarshLights ruled(String text) {
    MarshLights m = new MarshLights();
    write(m, text);
    due("rules of " + text, m.rules() >= 0, true);
    return m;
  }

  private static int growing(String sum, int lights, int hull, int days, int papers) {
    return ruled("grow " + sum + ";").grown(lights, hull, days, papers);
  }

  public static void main(String[] args) {
    promise = 1; newObject();
    promise = 2; hill();
    promise = 3; seer();
    promise = 4; star();
    promise = 5; flies();
    promise = 6; flare();
    promise = 7; lamp();
    promise = 8; ground();
    promise = 9; at();
    promise = 10; seenWays(); seenSlopes(); seenShown(); seenRefused();
    promise = 11; tell();
    promise = 12; undo();
    promise = 13; off();
    promise = 14; telling();
    promise = 15; fits();
    promise = 16; left();
    promise = 17; fewest();
    promise = 18; joined();
    promise = 19; cross();
    promise = 20; out();
    promise = 21; outs();
    promise = 22; size();
    promise = 23; hulls();
    promise = 24; ask();
    promise = 25; feed();
    promise = 26; end();
    promise = 27; fault();
    promise = 28; rules();
    promise = 29; office();
    promise = 30; grown();
    promise = 31; before();
    promise = 32; draw();
    promise = 33; count();
    System.out.println(looked + " answers, " + wrong + " wrong");
    if (wrong != 0) System.exit(1);
  }

  private static void newObject() {
    MarshLights m = new MarshLights();
    int[] want = {0, 0, 0, 0, 0, 8, 20, 0};
    for (int i = 0; i < 8; i++) due("count " + i, m.count(i), want[i]);
    due("ground", m.ground(2000), 0);
    due("telling", m.telling(0, 0), NONE);
    due("grown", m.grown(7, 0, 1, 1), 7);
    due("fault", m.fault(), 0);
    MarshLights other = new MarshLights();
    m.hill(0, 4095, 5);
    m.seer(0);
    m.off(1, 2);
    due("other ground", other.ground(0), 0);
    due("other seers", other.count(1), 0);
    due("other off", other.count(5), 8);
  }

  private static void hill() {
    MarshLights m = new MarshLights();
    due("no place", m.hill(-1, 0, 5), NONE);
    due("no place", m.hill(0, -1, 5), NONE);
    due("no place", m.hill(4096, 0, 5), NONE);
    due("no place", m.hill(0, 4096, 5), NONE);
    due("too low", m.hill(0, 4095, 0), NONE);
    due("too high", m.hill(0, 4095, 61), NONE);
    due("far off", m.hill(Integer.MIN_VALUE, Integer.MAX_VALUE, 5), NONE);
    due("nothing came", m.count(0), 0);
    due("nothing rose", m.ground(0), 0);
    for (int i = 0; i < 8; i++) due("hill " + i, m.hill(p(i, 0), p(i, 63), i == 0 ? 1 : 60), i);
    due("ninth", m.hill(0, 4095, 60), NONE);
    due("ninth rose nothing", m.ground(4095), 0);
    due("least height", m.ground(0), 1);
    due("greatest height", m.ground(p(7, 30)), 60);
    due("count", m.count(0), 8);
  }

  private static void seer() {
    MarshLights m = new MarshLights();
    due("no place", m.seer(-1), NONE);
    due("no place", m.seer(4096), NONE);
    for (int i = 0; i < 20; i++) due("seer " + i, m.seer(i == 0 ? 0 : 4095), i);
    due("one more", m.seer(5), NONE);
    due("count", m.count(1), 20);
  }

  private static void star() {
    MarshLights m = new MarshLights();
    int[][] no = {{-1, 0, 0}, {256, 0, 0}, {0, -1, 0}, {0, 1000, 0}, {0, 0, -10}, {0, 0, 10}};
    for (int[] n : no) due("star " + n[0] + " " + n[1] + " " + n[2], m.star(n[0], n[1], n[2]), NONE);
    due("count", m.count(2), 0);
    for (int i = 0; i < 12; i++) due("star " + i, m.star(255, 999, i % 2 == 0 ? -9 : 9), i);
    due("13th", m.star(0, 0, 0), NONE);
    due("13th flight", m.flies(1, 0, 0, 0, STILL), NONE);
    due("13th flare", m.flare(0, 0, 0, 0), NONE);
    due("13th lamp", m.lamp(0, 0, 1, 0), NONE);
    due("count", m.count(2), 12);
    m.seer(0);
    due("way at first", m.seen(0, 0, 0, 0), 255);
    due("way back", m.seen(0, 0, 1, 0), 253);
    due("way on", m.seen(1, 0, 1, 0), 0);
    due("way at last", m.seen(1, 0, 239, 0), (255 + 268) % 256);
    due("slope", m.seen(0, 0, 100, 1), 999);
    due("kind", m.at(0, 0, 3), 0);
  }

  private static void flies() {
    MarshLights m = new MarshLights();
    int[] kinds = {-1, 0, 2, 3, 6};
    for (int kind : kinds) due("kind " + kind, m.flies(kind, 0, 0, 0, STILL), NONE);
    int[] minutes = {-1, 240, 1000, 240240, 240, 100099, 239240, Integer.MIN_VALUE, Integer.MAX_VALUE};
    for (int n : minutes) due("minutes " + n, m.flies(1, n, 0, 0, STILL), NONE);
    due("no place", m.flies(1, 0, -1, 0, STILL), NONE);
    due("no place", m.flies(1, 0, 4096, 0, STILL), NONE);
    due("too low", m.flies(1, 0, 0, -1, STILL), NONE);
    due("too high", m.flies(1, 0, 0, 256, STILL), NONE);
    int[] speeds = {-1, 41, 4041, 4100, 99, Integer.MIN_VALUE, Integer.MAX_VALUE};
    for (int n : speeds) due("speed " + n, m.flies(1, 0, 0, 0, n), NONE);
    due("count", m.count(2), 0);
    due("flight", m.flies(1, 10020, p(5, 6), 7, speed(-3, 5)), 0);
    due("balloon", m.flies(4, 10020, p(5, 6), 0, speed(-3, 5)), 1);
    due("burning", m.flies(5, 10020, p(5, 6), 255, speed(-3, 5)), 2);
    due("for a minute", m.flies(5, 239239, 4095, 255, speed(20, 20)), 3);
    due("from first to last", m.flies(1, 239, 0, 0, speed(-20, -20)), 4);
    due("flight x", m.at(0, 13, 0), 2);
    due("flight y", m.at(0, 13, 1), 9);
    due("balloon x", m.at(1, 13, 0), 4);
    due("balloon y", m.at(1, 14, 1), 7);
    due("balloon first", m.at(1, 10, 1), 6);
    due("burning x", m.at(2, 13, 0), -4);
    due("burning y", m.at(2, 13, 1), 21);
    due("burning z", m.at(2, 13, 2), 255);
    due("off the map", m.at(4, 239, 1), -1195);
    MarshLights b = new MarshLights();
    b.flies(4, 239, p(5, 6), 0, speed(1, -1));
    due("balloon ahead of a sixteenth", b.at(0, 15, 0), 5);
    due("balloon at a sixteenth", b.at(0, 16, 0), 6);
    due("balloon y at a sixteenth", b.at(0, 16, 1), 5);
    due("balloon y behind it", b.at(0, 17, 1), 4);
    for (int i = 5; i < 12; i++) due("thing " + i, m.flies(1, 0, 0, 0, 0), i);
    due("13th", m.flies(1, 0, 0, 0, 0), NONE);
  }

  private static void flare() {
    MarshLights m = new MarshLights();
    due("minutes", m.flare(5004, 0, 10, 1), NONE);
    due("minutes", m.flare(-5, 0, 10, 1), NONE);
    due("minutes", m.flare(240, 0, 10, 1), NONE);
    due("no place", m.flare(0, 4096, 10, 1), NONE);
    due("no place", m.flare(0, -1, 10, 1), NONE);
    due("too low", m.flare(0, 0, -1, 1), NONE);
    due("too high", m.flare(0, 0, 256, 1), NONE);
    due("rises", m.flare(0, 0, 10, -1), NONE);
    due("falls too fast", m.flare(0, 0, 10, 21), NONE);
    due("count", m.count(2), 0);
    m.hill(p(3, 3), p(3, 3), 15);
    due("flare", m.flare(10050, p(3, 3), 25, 3), 0);
    due("flare", m.flare(10012, p(4, 4), 255, 20), 1);
    due("flare", m.flare(239, p(4, 4), 1, 0), 2);
    due("kind", m.at(0, 0, 3), 2);
    due("ahead", m.at(0, 9, 2), VOID);
    due("first", m.at(0, 10, 2), 25);
    due("above the ground", m.at(0, 13, 2), 16);
    due("at the ground", m.at(0, 14, 2), VOID);
    due("last", m.at(1, 12, 2), 215);
    due("behind its last", m.at(1, 13, 2), VOID);
    due("stays", m.at(2, 239, 2), 1);
    due("at the ground from the first", m.flare(0, p(3, 3), 15, 0), 3);
    due("never there", m.at(3, 0, 2), VOID);
    m.flare(0, p(9, 9), 0, 0);
    due("on no hill at 0", m.at(4, 0, 2), VOID);
  }

  private static void lamp() {
    MarshLights m = new MarshLights();
    int[][] no = {{-1, 0, 1, 0}, {4096, 0, 1, 0}, {0, -1, 1, 0}, {0, 61, 1, 0}, {0, 0, 0, 0}, {0, 0, 31, 0}, {0, 0, 5, 5},
        {0, 0, 5, -1}, {0, 0, -1, -2}};
    for (int[] n : no) due("lamp " + n[0] + " " + n[1] + " " + n[2] + " " + n[3], m.lamp(n[0], n[1], n[2], n[3]), NONE);
    due("count", m.count(2), 0);
    m.seer(p(20, 20));
    due("lamp", m.lamp(p(20, 30), 60, 30, 29), 0);
    due("lamp", m.lamp(p(20, 30), 0, 1, 0), 1);
    due("kind", m.at(0, 0, 3), 3);
    due("z", m.at(0, 100, 2), 60);
    due("unlit", m.seen(0, 0, 28, 2), 0);
    due("lit", m.seen(0, 0, 29, 2), 1);
    due("lit again", m.seen(0, 0, 239, 2), 1);
    due("unlit again", m.seen(0, 0, 230, 2), 0);
    due("always lit", m.seen(1, 0, 238, 2), 1);
    m.hill(p(19, 29), p(21, 31), 10);
    due("on a hill", m.at(0, 100, 2), 70);
  }

  private static void ground() {
    MarshLights m = new MarshLights();
    m.hill(p(12, 8), p(10, 20), 30);
    due("corner", m.ground(p(12, 8)), 30);
    due("corner", m.ground(p(10, 20)), 30);
    due("corner", m.ground(p(12, 20)), 30);
    due("corner", m.ground(p(10, 8)), 30);
    due("within", m.ground(p(11, 14)), 30);
    due("without", m.ground(p(9, 8)), 0);
    due("without", m.ground(p(13, 8)), 0);
    due("without", m.ground(p(12, 7)), 0);
    due("without", m.ground(p(12, 21)), 0);
    m.hill(p(11, 14), p(15, 14), 20);
    m.hill(p(12, 14), p(12, 14), 50);
    due("the greater of two", m.ground(p(11, 14)), 30);
    due("the second alone", m.ground(p(15, 14)), 20);
    due("the greatest", m.ground(p(12, 14)), 50);
    m.hill(p(40, 3), p(41, 2), 9);
    due("more x than y", m.ground(p(41, 3)), 9);
    due("as told", m.ground(p(40, 2)), 9);
    due("not beyond its y", m.ground(p(40, 4)), 0);
    due("not ahead of its y", m.ground(p(40, 1)), 0);
    due("no place", m.ground(-1), NONE);
    due("no place", m.ground(4096), NONE);
    due("last place", m.ground(4095), 0);
  }

  private static void at() {
    MarshLights m = new MarshLights();
    m.star(5, 5, 5);
    m.flies(1, 100120, p(30, 40), 77, speed(-1, 1));
    m.lamp(p(1, 2), 3, 2, 1);
    for (int i = 0; i < 3; i++) due("star", m.at(0, 0, i), VOID);
    due("kind", m.at(0, 0, 3), 0);
    due("kind", m.at(1, 99, 3), 1);
    due("ahead", m.at(1, 99, 0), VOID);
    due("x first", m.at(1, 100, 0), 30);
    due("x floor", m.at(1, 101, 0), 29);
    due("y floor", m.at(1, 101, 1), 40);
    due("y", m.at(1, 104, 1), 41);
    due("z", m.at(1, 120, 2), 77);
    due("behind", m.at(1, 121, 2), VOID);
    due("unlit lamp x", m.at(2, 0, 0), 1);
    due("unlit lamp y", m.at(2, 0, 1), 2);
    due("unlit lamp z", m.at(2, 0, 2), 3);
    due("what", m.at(1, 100, -1), VOID);
    due("what", m.at(1, 100, 4), VOID);
    due("no thing", m.at(3, 100, 3), VOID);
    due("no thing", m.at(-1, 100, 3), VOID);
    due("no minute", m.at(1, -1, 3), VOID);
    due("no minute", m.at(1, 240, 3), VOID);
  }

  /** The way from a seer at 30, 30 to a burning thing so far away, looked at in minute 1. */
  private static int wayTo(int dx, int dy) {
    MarshLights m = new MarshLights();
    m.seer(p(30, 30));
    m.flies(5, 1, p(30, 30), 1, speed(dx, dy));
    return m.seen(0, 0, 1, 0);
  }

  private static void seenWays() {
    due("at it", wayTo(0, 0), 0);
    due("east", wayTo(10, 0), 0);
    due("east to north", wayTo(10, 10), 32);
    due("cut", wayTo(1, 2), 42);
    due("north", wayTo(0, 10), 64);
    due("north to west", wayTo(-2, 1), 64 + 42);
    due("half to the west", wayTo(-1, 1), 96);
    due("half to the south", wayTo(-1, -1), 160);
    due("half to the east", wayTo(1, -1), 224);
    due("west", wayTo(-7, 0), 128);
    due("west to south", wayTo(-1, -2), 128 + 42);
    due("south", wayTo(0, -3), 192);
    due("south to east", wayTo(2, -1), 192 + 42);
    due("nearly east", wayTo(20, -1), 192 + 60);
  }

  private static void seenSlopes() {
    MarshLights m = new MarshLights();
    m.hill(p(30, 30), p(30, 30), 40);
    m.seer(p(30, 30));
    m.flies(1, 239, p(31, 31), 0, STILL);
    m.flies(1, 239, p(33, 30), 40, STILL);
    m.flies(1, 239, p(30, 30), 0, STILL);
    m.flies(1, 239, p(31, 30), 51, STILL);
    m.flies(1, 239, p(31, 30), 50, STILL);
    m.flies(1, 239, p(31, 30), 31, STILL);
    due("below -999", m.seen(0, 0, 0, 1), -999);
    due("floor", m.seen(1, 0, 0, 1), -34);
    due("at the seer", m.seen(2, 0, 0, 1), 999);
    due("above 999", m.seen(3, 0, 0, 1), 999);
    due("ahead of 999", m.seen(4, 0, 0, 1), 900);
    due("-1000", m.seen(5, 0, 0, 1), -999);
    m.hill(p(0, 0), p(63, 63), 43);
    due("eye of hills that came behind", m.seen(1, 0, 0, 1), -134);
  }

  private static void seenShown() {
    MarshLights m = new MarshLights();
    m.seer(p(0, 0));
    m.lamp(p(32, 0), 17, 1, 0);
    m.lamp(p(32, 0), 17, 2, 1);
    m.star(0, 0, 0);
    due("over the plain", m.seen(0, 0, 0, 2), 1);
    due("no hill", m.seen(0, 0, 0, 3), NONE);
    due("unlit", m.seen(1, 0, 0, 2), 0);
    due("unlit way", m.seen(1, 0, 0, 0), VOID);
    due("unlit slope", m.seen(1, 0, 0, 1), VOID);
    due("unlit hill", m.seen(1, 0, 0, 3), VOID);
    m.hill(p(20, 0), p(21, 0), 11);
    due("ground as high as the line", m.seen(0, 0, 0, 2), 1);
    m.hill(p(20, 5), p(20, 0), 12);
    due("ground above the line", m.seen(0, 0, 0, 2), 0);
    due("by the second", m.seen(0, 0, 0, 3), 1);
    m.hill(p(24, 0), p(24, 0), 60);
    due("by the nearer", m.seen(0, 0, 0, 3), 1);
    m.hill(p(10, 0), p(10, 0), 9);
    m.hill(p(10, 0), p(10, 0), 9);
    due("by the first of like ones", m.seen(0, 0, 0, 3), 3);
    due("the way of what is hidden", m.seen(0, 0, 0, 0), 0);
    due("the slope of what is hidden", m.seen(0, 0, 0, 1), 50);
    due("a star is never hidden", m.seen(2, 0, 0, 2), 1);
    due("by none", m.seen(2, 0, 0, 3), NONE);
    // The hill at the thing's own place doesn't hide it, that a sixteenth ahead does.
    MarshLights n = new MarshLights();
    n.seer(p(0, 0));
    n.flies(1, 239, p(16, 0), 5, STILL);
    n.hill(p(16, 0), p(16, 0), 60);
    due("within its own hill", n.seen(0, 0, 0, 2), 1);
    n.hill(p(15, 0), p(15, 0), 60);
    due("behind the last step", n.seen(0, 0, 0, 3), 1);
    n.hill(p(1, 0), p(1, 0), 60);
    due("behind the first step", n.seen(0, 0, 0, 3), 2);
    // Off the map there is no ground, but the line to there goes over the map.
    MarshLights o = new MarshLights();
    o.seer(p(0, 32));
    o.hill(p(60, 32), p(63, 32), 60);
    o.flies(5, 239, p(60, 32), 20, speed(20, 0));
    due("on the map", o.seen(0, 0, 0, 2), 1);
    due("off it, behind the hill", o.seen(0, 0, 1, 2), 0);
    due("so far off that no step comes to the hill", o.seen(0, 0, 204, 2), 1);
    // To a point behind the west the steps are cut downwards.
    seenOffTheMap();
    seenAcross();
    MarshLights q = new MarshLights();
    q.seer(p(10, 10));
    q.flies(1, 239, p(9, 10), 2, STILL);
    q.hill(p(9, 10), p(9, 10), 60);
    due("floor to the west", q.seen(0, 0, 0, 3), 0);
    // From a hill down its own side: the line is cut downwards, too.
    MarshLights r = new MarshLights();
    r.hill(p(10, 10), p(10, 10), 20);
    r.seer(p(10, 10));
    r.flies(1, 239, p(30, 10), 20, STILL);
    due("just along the hill", r.seen(0, 0, 0, 2), 1);
    r.hill(p(11, 10), p(11, 10), 21);
    due("floor of the line", r.seen(0, 0, 0, 3), 1);
  }

  private static void seenOffTheMap() {
    MarshLights m = new MarshLights();
    m.seer(p(63, 63));
    m.hill(p(0, 0), p(62, 63), 60);
    m.hill(p(63, 0), p(63, 62), 60);
    m.flies(5, 239, p(63, 63), 0, speed(16, 0));
    m.flies(5, 239, p(63, 63), 0, speed(0, 16));
    m.flies(5, 239, p(63, 63), 0, speed(20, 20));
    m.flies(5, 239, p(63, 63), 0, speed(-16, 0));
    m.flies(5, 239, p(63, 63), 0, speed(0, -16));
    for (int i = 0; i < 3; i++) due("no ground beyond " + i, m.seen(i, 0, 1, 2), 1);
    due("ground to the west", m.seen(3, 0, 1, 3), 0);
    due("ground to the south", m.seen(4, 0, 1, 3), 1);
    MarshLights w = new MarshLights();
    w.seer(p(0, 0));
    w.hill(p(0, 1), p(0, 63), 60);
    w.hill(p(1, 0), p(63, 63), 60);
    w.flies(5, 239, p(0, 0), 0, speed(-16, 0));
    w.flies(5, 239, p(0, 0), 0, speed(0, -16));
    w.flies(5, 239, p(0, 0), 0, speed(0, 16));
    w.flies(5, 239, p(0, 0), 0, speed(16, 0));
    due("no ground ahead of x", w.seen(0, 0, 1, 2), 1);
    due("no ground ahead of y", w.seen(1, 0, 1, 2), 1);
    due("ground to the north", w.seen(2, 0, 1, 3), 0);
    due("ground to the east", w.seen(3, 0, 1, 3), 1);
  }

  /** Hills on a line with both an x and a y, that alone, and not where it doesn't go. */
  private static void seenAcross() {
    int[][] on = {{13, 39}, {19, 37}, {25, 33}};
    for (int[] place : on) {
      MarshLights m = new MarshLights();
      m.seer(p(10, 40));
      m.lamp(p(26, 32), 1, 1, 0);
      due("shown", m.seen(0, 0, 0, 2), 1);
      // 16 steps of 1 to the east and half to the south: 10 + k, 40 + floor(-k / 2).
      int k = place[0] - 10;
      m.hill(p(place[0], 40 - (k + 1) / 2), p(place[0], 40 - (k + 1) / 2), 2);
      due("hidden at step " + k, m.seen(0, 0, 0, 3), 0);
      MarshLights n = new MarshLights();
      n.seer(p(10, 40));
      n.lamp(p(26, 32), 1, 1, 0);
      n.hill(p(place[0], 0), p(place[0], 40 - (k + 1) / 2 - 1), 60);
      n.hill(p(place[0], 40 - (k + 1) / 2 + 1), p(place[0], 63), 60);
      due("not beside it", n.seen(0, 0, 0, 2), 1);
    }
  }

  private static void seenRefused() {
    MarshLights m = new MarshLights();
    m.seer(p(1, 1));
    m.lamp(p(2, 1), 1, 1, 0);
    m.flies(1, 5006, p(2, 1), 1, STILL);
    due("seen", m.seen(0, 0, 239, 2), 1);
    due("what", m.seen(0, 0, 0, -1), VOID);
    due("what", m.seen(0, 0, 0, 4), VOID);
    due("no thing", m.seen(2, 0, 0, 2), VOID);
    due("no thing", m.seen(-1, 0, 0, 2), VOID);
    due("no seer", m.seen(0, 1, 0, 2), VOID);
    due("no seer", m.seen(0, -1, 0, 2), VOID);
    due("no minute", m.seen(0, 0, 240, 2), VOID);
    due("no minute", m.seen(0, 0, -1, 2), VOID);
    due("not there", m.seen(1, 0, 4, 0), VOID);
    due("not there", m.seen(1, 0, 7, 1), VOID);
    due("not there", m.seen(1, 0, 7, 3), VOID);
    due("not shown", m.seen(1, 0, 7, 2), 0);
    due("shown", m.seen(1, 0, 6, 2), 1);
  }

  private static void tell() {
    MarshLights m = new MarshLights();
    due("no seer", m.tell(0, 0, 0, 0, 1), NONE);
    m.seer(0);
    int[][] no = {{-1, 0, 0, 0, 1}, {1, 0, 0, 0, 1}, {0, -1, 0, 0, 1}, {0, 5004, 0, 0, 1}, {0, 240, 0, 0, 1},
        {0, 240239, 0, 0, 1}, {0, 0, -1, 0, 1}, {0, 0, 256000, 0, 1}, {0, 0, 0, -1, 1}, {0, 0, 0, 256000, 1},
        {0, 0, 0, 0, 0}, {0, 0, 0, 0, 10}, {0, 0, 0, 0, 20}, {0, 0, 0, 0, 21}, {0, 0, 0, 0, -1}, {0, 0, 0, 0, -9}};
    for (int[] n : no) {
      due("tell " + java.util.Arrays.toString(n), m.tell(n[0], n[1], n[2], n[3], n[4]), NONE);
    }
    due("count", m.count(3), 0);
    due("least", m.tell(0, 0, 0, 0, 1), 0);
    due("greatest", m.tell(0, 239239, 255999, 255999, 19), 1);
    for (int i = 2; i < 60; i++) due("tell " + i, m.tell(0, 239, 1000, 1000, 11), i);
    due("61st", m.tell(0, 0, 0, 0, 1), NONE);
    due("count", m.count(3), 60);
  }

  private static void undo() {
    MarshLights m = new MarshLights();
    due("without", m.undo(), NONE);
    m.seer(0);
    m.star(10, 10, 0);
    m.tell(0, 0, 10010, 10010, 1);
    m.tell(0, 0, 100100, 100100, 2);
    due("undo", m.undo(), 1);
    due("gone", m.telling(1, 7), NONE);
    due("stays", m.telling(0, 7), 1);
    due("left", m.left(NONE), 0);
    due("undo", m.undo(), 0);
    due("again", m.undo(), NONE);
    due("told anew", m.tell(0, 5005, 200200, 200200, 3), 0);
    due("nothing of the one ahead", m.fits(0, NONE), 0);
    due("ask", m.ask(2), NONE);
  }

  private static void off() {
    MarshLights m = new MarshLights();
    int[][] no = {{-1, 5}, {33, 5}, {5, -1}, {5, 201}};
    for (int[] n : no) due("off " + n[0] + " " + n[1], m.off(n[0], n[1]), false);
    due("A", m.count(5), 8);
    due("B", m.count(6), 20);
    due("greatest", m.off(32, 200), true);
    due("A", m.count(5), 32);
    due("B", m.count(6), 200);
    due("least", m.off(0, 0), true);
    due("A", m.count(5), 0);
    due("B", m.count(6), 0);
  }

  private static void telling() {
    MarshLights m = new MarshLights();
    m.seer(5);
    m.seer(6);
    m.tell(1, 17203, 101999, 255003, 18);
    int[] want = {1, 17, 203, 101, 999, 255, 3, 8, 1};
    for (int i = 0; i < 9; i++) due("telling " + i, m.telling(0, i), want[i]);
    due("what", m.telling(0, -1), NONE);
    due("what", m.telling(0, 9), NONE);
    due("no telling", m.telling(1, 0), NONE);
    due("no telling", m.telling(-1, 0), NONE);
  }

  private static void fits() {
    MarshLights m = new MarshLights();
    m.seer(p(0, 0));
    m.star(250, 500, 0);
    m.star(100, 500, 0);
    m.star(4, 500, 0);
    due("both by the way round", fitting(m, 0, 255500, 255500), 0b101);
    due("one is 8 apart", fitting(m, 0, 2500, 2500), 0b101);
    due("9 apart", fitting(m, 0, 3500, 3500), 0b100);
    due("8 the other way", fitting(m, 0, 242500, 242500), 0b001);
    due("slope 20 apart", fitting(m, 0, 4480, 4520), 0b100);
    due("slope 21 below", fitting(m, 0, 4479, 4500), 0);
    due("slope 21 above at last", fitting(m, 0, 4500, 4521), 0);
    due("way at last", fitting(m, 0, 4500, 13500), 0);
    due("way at first", fitting(m, 0, 13500, 4500), 0);
    m.off(0, 0);
    due("just it", fitting(m, 0, 100500, 100500), 0b010);
    due("just not", fitting(m, 0, 101500, 100500), 0);
    m.tell(0, 0, 100500, 100500, 1);
    due("count", m.fits(0, NONE), 1);
    due("first", m.fits(0, 0), 1);
    due("second", m.fits(0, 1), NONE);
    due("k", m.fits(0, -2), NONE);
    due("k", m.fits(0, Integer.MAX_VALUE), NONE);
    due("no telling", m.fits(1, NONE), NONE);
    due("no telling", m.fits(-1, NONE), NONE);
    m.off(32, 200);
    m.star(110, 600, 0);
    due("after the change", m.fits(0, NONE), 2);
    due("second", m.fits(0, 1), 3);
    // A thing fits only if it is shown in both minutes; what lies between doesn't matter.
    MarshLights h = new MarshLights();
    h.seer(p(0, 0));
    h.lamp(p(20, 0), 11, 2, 0);
    h.tell(0, 4006, 50, 50, 1);
    h.tell(0, 4007, 50, 50, 1);
    h.tell(0, 3004, 50, 50, 1);
    due("lit in both", h.fits(0, NONE), 1);
    due("unlit at last", h.fits(1, NONE), 0);
    due("unlit at first", h.fits(2, NONE), 0);
    h.hill(p(10, 0), p(10, 0), 20);
    due("hidden", h.fits(0, NONE), 0);
    h.flies(1, 4006, p(20, 0), 11, STILL);
    h.hill(p(0, 0), p(0, 0), 30);
    h.tell(0, 4006, 0, 0, 1);
    due("slopes below 0 are near 0 at most", h.fits(3, NONE), 0);
    h.off(8, 100);
    due("near 0", h.fits(3, NONE), 2);
    due("the lamp", h.fits(3, 0), 0);
    due("the flight", h.fits(3, 1), 1);
  }

  /** The bits of what fits a telling that is told and taken back. */
  private static int fitting(MarshLights m, int minutes, int begin, int end) {
    int n = m.tell(0, minutes, begin, end, 1);
    int bits = 0;
    for (int k = 0; k < m.fits(n, NONE); k++) bits |= 1 << m.fits(n, k);
    m.undo();
    return bits;
  }

  private static void left() {
    MarshLights m = new MarshLights();
    due("without", m.left(NONE), 0);
    m.seer(0);
    m.tell(0, 0, 10010, 10010, 1);
    m.tell(0, 0, 100100, 100100, 1);
    m.tell(0, 0, 200200, 200200, 1);
    due("all", m.left(NONE), 3);
    m.star(100, 100, 0);
    due("two", m.left(NONE), 2);
    due("first", m.left(0), 0);
    due("second", m.left(1), 2);
    due("third", m.left(2), NONE);
    due("k", m.left(-2), NONE);
    m.undo();
    due("one", m.left(NONE), 1);
  }

  private static void fewest() {
    MarshLights m = new MarshLights();
    due("without", m.fewest(), 0);
    m.seer(0);
    int[] ways = {10, 20, 30, 100, 110};
    for (int way : ways) m.star(way, 100, 0);
    m.tell(0, 0, 15100, 15100, 1);
    due("the least of two", m.fewest(), 0b00001);
    m.tell(0, 0, 25100, 25100, 1);
    due("the one of both", m.fewest(), 0b00010);
    m.tell(0, 0, 105100, 105100, 1);
    due("one more", m.fewest(), 0b01010);
    m.tell(0, 0, 112100, 112100, 1);
    due("the other one", m.fewest(), 0b10010);
    m.tell(0, 0, 200100, 200100, 1);
    due("one is left", m.fewest(), 0b10010);
    m.off(0, 0);
    due("all are left", m.fewest(), 0);
    m.off(8, 20);
    m.undo();
    m.undo();
    due("what was taken back needs nothing", m.fewest(), 0b01010);
    MarshLights all = new MarshLights();
    all.seer(0);
    for (int i = 0; i < 12; i++) {
      all.star(20 * i, 100, 0);
      all.tell(0, 0, 20000 * i + 100, 20000 * i + 100, 1);
      due("all of " + i, all.fewest(), (2 << i) - 1);
    }
    // Fewer bits go ahead of a lesser number.
    MarshLights n = new MarshLights();
    n.seer(0);
    n.star(10, 100, 0);
    n.star(22, 100, 0);
    n.star(16, 100, 0);
    n.tell(0, 0, 12100, 12100, 1);
    n.tell(0, 0, 21100, 21100, 1);
    due("the third alone", n.fewest(), 0b100);
  }

  private static void joined() {
    MarshLights m = new MarshLights();
    m.seer(0);
    m.seer(100);
    m.star(100, 100, 0);
    m.star(150, 100, 0);
    m.tell(0, 10020, 100100, 100100, 1);
    m.tell(1, 20030, 100100, 100100, 1);
    m.tell(1, 10010, 150100, 150100, 1);
    m.tell(1, 15016, 200100, 200100, 1);
    m.tell(1, 21022, 100100, 100100, 1);
    m.tell(0, 10020, 100100, 100100, 1);
    m.tell(1, 9, 100100, 100100, 1);
    due("a minute in common", m.joined(0, 1), 2);
    due("the other way", m.joined(1, 0), 2);
    due("they were two", m.joined(0, 2), 1);
    due("one is left", m.joined(0, 3), 0);
    due("one is left", m.joined(3, 0), 0);
    due("behind", m.joined(0, 4), NONE);
    due("ahead", m.joined(0, 6), NONE);
    due("of one seer", m.joined(0, 5), NONE);
    due("itself", m.joined(0, 0), NONE);
    due("none such", m.joined(0, 7), NONE);
    due("none such", m.joined(-1, 0), NONE);
  }

  private static void cross() {
    MarshLights m = new MarshLights();
    m.seer(p(0, 10));
    m.seer(p(20, 10));
    m.off(0, 10);
    m.tell(0, 5009, 0, 99999, 1);
    m.tell(1, 5007, 128000, 99999, 1);
    int[] between = {19, 19, 1, 19, 10, 10};
    for (int i = 0; i < 6; i++) due("between " + i, m.cross(0, 1, i), between[i]);
    m.tell(1, 5005, 0, 0, 1);
    int[] behind = {43, 43, 21, 63, 10, 10};
    for (int i = 0; i < 6; i++) due("behind both " + i, m.cross(0, 2, i), behind[i]);
    m.tell(1, 5005, 128500, 0, 1);
    // From 0 at most z = 1 + d / 10, from 20 z >= 1 + 4.9 * (20 - d): at d = 19 there are 2 and 6.
    due("no height", m.cross(0, 3, 1), 0);
    due("but places", m.cross(0, 3, 0), 19);
    m.off(0, 200);
    due("a height", m.cross(0, 3, 1) > 0, true);
    m.off(0, 10);
    m.tell(1, 6006, 128000, 0, 1);
    due("unlike first minutes", m.cross(0, 4, 0), NONE);
    m.tell(0, 5005, 128000, 0, 1);
    due("of one seer", m.cross(0, 5, 0), NONE);
    due("no place", m.cross(5, 2, 0), NONE);
    m.tell(1, 5005, 64000, 0, 1);
    due("none at all", m.cross(0, 6, 0), NONE);
    due("none at all", m.cross(0, 6, 1), NONE);
    due("none at all", m.cross(0, 6, 2), NONE);
    due("what", m.cross(0, 1, 6), NONE);
    due("what", m.cross(0, 1, -1), NONE);
    due("none such", m.cross(0, 7, 0), NONE);
    due("none such", m.cross(-1, 1, 0), NONE);
    due("itself", m.cross(0, 0, 0), NONE);
    // Of two seers at one place all that the ways have in common, but not that place.
    MarshLights n = new MarshLights();
    n.seer(p(63, 63));
    n.seer(p(63, 63));
    n.off(32, 200);
    n.tell(0, 0, 160000, 0, 1);
    n.tell(1, 0, 160000, 0, 1);
    due("everywhere else", n.cross(0, 1, 0), 4095);
    due("least x", n.cross(0, 1, 2), 0);
    due("greatest y", n.cross(0, 1, 5), 63);
    n.tell(1, 0, 130000, 0, 1);
    due("less", n.cross(0, 2, 0) < 4095, true);
    for (int i = 0; i < 6; i++) due("between as ahead " + i, m.cross(0, 1, i), between[i]);
    // The greatest z, 255, is 12 * 100 / 63 and more above an eye only near by.
    MarshLights h = new MarshLights();
    h.seer(p(0, 0));
    h.seer(p(0, 63));
    h.off(0, 0);
    h.tell(0, 0, 999, 0, 1);
    h.tell(1, 0, 192999, 0, 1);
    due("ways that don't meet", h.cross(0, 1, 0), NONE);
    h.tell(1, 0, 224404, 0, 1);
    due("one place", h.cross(0, 2, 0), 1);
    due("its x", h.cross(0, 2, 2), 63);
    due("its y", h.cross(0, 2, 4), 0);
    due("too steep for the first", h.cross(0, 2, 1), 0);
    h.tell(0, 0, 403, 0, 1);
    due("255 from the one, not the other", h.cross(3, 2, 1), 0);
    h.tell(1, 0, 224201, 0, 1);
    due("255 from both", h.cross(3, 4, 1), 1);
    h.tell(0, 0, 404, 0, 1);
    due("256", h.cross(5, 4, 1), 0);
    // A slope of 999 has no greatest height; the other's single z is 50 at the first place, none at the others.
    MarshLights s = new MarshLights();
    s.seer(p(10, 10));
    s.seer(p(10, 30));
    s.off(0, 0);
    s.tell(0, 0, 64999, 0, 1);
    s.tell(1, 0, 192257, 0, 1);
    due("places", s.cross(0, 1, 0), 19);
    due("with a height", s.cross(0, 1, 1), 1);
    // Seers on hills: the eyes are 11 and 21, so that a slope of 0 meets z 21 alone where 100 / s goes under 10.
    MarshLights e = new MarshLights();
    e.seer(p(10, 10));
    e.seer(p(10, 30));
    e.hill(p(10, 10), p(10, 10), 10);
    e.hill(p(10, 30), p(10, 30), 20);
    e.off(0, 0);
    e.tell(0, 0, 64100, 0, 1);
    e.tell(1, 0, 192000, 0, 1);
    // z is 11 + d from the one and 21 from the other: at d = 10.
    due("with a height", e.cross(0, 1, 1), 1);
    e.off(0, 11);
    // z from 11 + ceil(.89 d) to 10 + ceil(1.12 d), and from 21 - floor(.11 (20 - d)) to 20 + ceil(.12 (20 - d)).
    due("at 9, 10 and 11", e.cross(0, 1, 1), 3);
  }

  private static void out() {
    MarshLights m = new MarshLights();
    m.seer(p(0, 0));
    m.seer(p(40, 0));
    m.hill(p(10, 0), p(10, 0), 20);
    m.flare(100200, p(20, 0), 60, 3);
    m.star(0, 0, 0);
    // From 0: the line at 10 is 1 + (z - 1) / 2, below 20 from z = 38 on, that is in minute 108.
    due("behind the hill", m.out(0, 0), 108);
    due("shown ahead", m.seen(0, 0, 107, 2), 1);
    due("at the ground", m.out(0, 1), 120);
    due("no flare", m.out(1, 0), NONE);
    due("none such", m.out(2, 0), NONE);
    due("none such", m.out(-1, 0), NONE);
    due("no seer", m.out(0, 2), NONE);
    due("no seer", m.out(0, -1), NONE);
    m.flare(100200, p(20, 0), 30, 0);
    due("hidden always", m.out(2, 0), NONE);
    due("behind its last minute", m.out(2, 1), 201);
    m.flare(239239, p(30, 0), 200, 20);
    due("at 240", m.out(3, 1), 240);
    m.flare(0, p(30, 0), 0, 1);
    due("never there", m.out(4, 1), NONE);
    m.flare(7007, p(30, 0), 1, 1);
    due("there for a minute", m.out(5, 1), 8);
  }

  private static void outs() {
    MarshLights m = new MarshLights();
    m.seer(p(0, 0));
    due("at the ground everywhere", m.outs(0, 10, 20, 2), 4096);
    due("earlier", m.outs(0, 9, 20, 2), 0);
    due("later", m.outs(0, 11, 20, 2), 0);
    due("just shown", m.outs(0, 10, 21, 2), 0);
    due("no longer", m.outs(0, 11, 21, 2), 4096);
    due("never", m.outs(0, 10, 20, 0), 0);
    due("at once", m.outs(0, 238239, 1, 1), 4096);
    due("one apart", m.outs(0, 1, 3, 3), 4096);
    due("20 apart", m.outs(0, 20, 20, 1), 4096);
    due("21 apart", m.outs(0, 21, 21, 1), NONE);
    due("none apart", m.outs(0, 5005, 20, 2), NONE);
    due("turned", m.outs(0, 10005, 20, 2), NONE);
    due("no minute", m.outs(0, 239240, 20, 2), NONE);
    due("no minutes", m.outs(0, -1, 20, 2), NONE);
    due("z", m.outs(0, 10, 256, 2), NONE);
    due("z", m.outs(0, 10, -1, 2), NONE);
    due("fall", m.outs(0, 10, 20, 21), NONE);
    due("fall", m.outs(0, 10, 20, -1), NONE);
    due("no seer", m.outs(1, 10, 20, 2), NONE);
    due("no seer", m.outs(-1, 10, 20, 2), NONE);
    m.hill(p(63, 63), p(62, 63), 10);
    due("on the hill earlier", m.outs(0, 5, 20, 2), 2);
    due("all others", m.outs(0, 10, 20, 2), 4094);
    due("nothing came", m.count(2), 0);
    // Place by place, by flares on an object each, over hills on every side.
    int[] outs = new int[241];
    for (int place = 0; place < 4096; place++) {
      MarshLights w = hilly();
      w.flare(239, place, 130, 6);
      int out = w.out(0, 0);
      if (out != NONE) outs[out]++;
    }
    MarshLights w = hilly();
    for (int t = 1; t <= 20; t++) due("out at " + t, w.outs(0, t, 130, 6), outs[t]);
    due("some are out early", outs[1] + outs[2] + outs[3] + outs[4] > 100, true);
    due("most are out late", outs[18] + outs[19] + outs[20] + outs[21] + outs[22] > 1000, true);
  }

  private static MarshLights hilly() {
    MarshLights m = new MarshLights();
    m.hill(p(38, 10), p(41, 15), 12);
    m.hill(p(44, 0), p(44, 30), 31);
    m.hill(p(30, 25), p(60, 27), 44);
    m.hill(p(5, 12), p(33, 13), 25);
    m.hill(p(36, 3), p(37, 4), 60);
    m.seer(p(40, 13));
    return m;
  }

  private static void size() {
    MarshLights m = new MarshLights();
    m.seer(p(10, 14));
    m.star(0, 0, 0);
    m.flies(5, 10020, p(10, 14), 9, speed(-2, 3));
    m.lamp(p(11, 16), 5, 2, 1);
    m.flare(10020, p(11, 14), 5, 5);
    m.tell(0, 12013, 0, 0, 1);
    m.tell(0, 10010, 0, 0, 1);
    due("ten places off", m.size(0, 1, 7, 3), 23);
    due("at the seer", m.size(1, 1, 10000, 1), 0);
    due("greatest", m.size(0, 1, 10000, 1), 100000);
    due("least", m.size(0, 1, 1, 10000), 0);
    due("an unlit lamp", m.size(0, 2, 100, 100), 3);
    due("a star", m.size(0, 0, 1, 1), NONE);
    due("a flare", m.size(1, 3, 5, 1), 5);
    due("a flare that is gone", m.size(0, 3, 5, 1), NONE);
    due("size", m.size(0, 1, 0, 1), NONE);
    due("size", m.size(0, 1, 10001, 1), NONE);
    due("far", m.size(0, 1, 1, 0), NONE);
    due("far", m.size(0, 1, 1, 10001), NONE);
    due("no telling", m.size(2, 1, 1, 1), NONE);
    due("no telling", m.size(-1, 1, 1, 1), NONE);
    due("no thing", m.size(0, 4, 1, 1), NONE);
    due("no thing", m.size(0, -1, 1, 1), NONE);
    m.tell(0, 9015, 0, 0, 1);
    due("not there yet", m.size(2, 1, 1, 1), NONE);
  }

  private static void hulls() {
    MarshLights m = new MarshLights();
    m.seer(0);
    m.star(50, 50, 0);
    m.tell(0, 0, 50050, 50050, 3);
    m.tell(0, 0, 50050, 50050, 15);
    m.tell(0, 0, 50050, 50050, 9);
    m.tell(0, 0, 99050, 50050, 19);
    due("all", m.hulls(1, 0), 3);
    due("three", m.hulls(3, 0), 3);
    due("four", m.hulls(4, 0), 2);
    due("nine", m.hulls(9, 0), 1);
    due("with a hull", m.hulls(1, 1), 1);
    due("with a hull", m.hulls(5, 1), 1);
    due("with a hull", m.hulls(6, 1), 0);
    m.undo();
    m.tell(0, 0, 50050, 50050, 19);
    due("with two hulls", m.hulls(1, 1), 2);
    m.undo();
    due("not what was taken back", m.hulls(1, 1), 1);
    due("lights", m.hulls(0, 0), NONE);
    due("lights", m.hulls(10, 0), NONE);
    due("what", m.hulls(1, 2), NONE);
    due("what", m.hulls(1, -1), NONE);
  }

  private static void ask() {
    MarshLights m = new MarshLights();
    m.seer(p(32, 0));
    due("no telling", m.ask(2), NONE);
    m.star(100, 100, 0);
    m.tell(0, 10020, 100100, 100100, 1);
    due("one thing alone", m.ask(2), NONE);
    m.star(108, 100, 0);
    due("a couple that nothing parts", m.ask(0), NONE);
    m.star(92, 100, 0);
    // The outer two are 16 apart, the others 8.
    due("telling", m.ask(0), 0);
    due("minute", m.ask(1), 10);
    due("couples", m.ask(2), 1);
    due("what", m.ask(3), NONE);
    due("what", m.ask(-1), NONE);
    m.tell(0, 5005, 100100, 100100, 1);
    due("the least telling", m.ask(0), 0);
    due("its minute", m.ask(1), 10);
    m.off(16, 20);
    due("not more than A apart", m.ask(2), NONE);
    // A lamp that is lit at both ends alone is parted from three stars in the first minute between.
    MarshLights n = new MarshLights();
    n.seer(p(32, 32));
    n.star(64, 100, 0);
    n.star(64, 100, 0);
    n.star(64, 100, 0);
    n.lamp(p(32, 42), 11, 5, 2);
    n.tell(0, 3, 64100, 64100, 1);
    n.tell(0, 2002, 64100, 64100, 1);
    n.tell(0, 7012, 64100, 64100, 1);
    n.tell(0, 2007, 64100, 64100, 1);
    due("lit in 2, 7, 12", n.ask(0), 2);
    due("the least minute", n.ask(1), 8);
    due("three couples", n.ask(2), 3);
    n.undo();
    due("as ahead", n.ask(0), 2);
    n.undo();
    due("none parts any", n.ask(0), NONE);
    n.tell(0, 2007, 64100, 64100, 1);
    due("what is told in its place", n.ask(1), 3);
    // Two stars that are 8 apart at first and 9 at last.
    MarshLights l = new MarshLights();
    l.seer(0);
    l.star(100, 100, 0);
    l.star(108, 100, 8);
    l.tell(0, 1, 104100, 104100, 1);
    due("parted at last", l.ask(1), 1);
    due("one couple", l.ask(2), 1);
  }

  private static void feed() {
    MarshLights m = new MarshLights();
    // "grow lights*2;" and bytes beyond 127.
    due("feed", m.feed(0x67726f77, 0x206c6967, 0x6874732a, 0x323bffff, 0xffffffff), 20);
    due("a byte that is none", m.fault(), 14);
    m.end(14);
    due("fault", m.fault(), NONE);
    due("rules", m.rules(), 0);
    due("grown", m.grown(4, 0, 0, 0), 8);
    for (int i = 1; i <= 20; i++) due("feed " + i, m.feed(i, i, i, i, i), 20 * i);
    due("too many", m.feed(1, 1, 1, 1, 1), NONE);
    due("count", m.count(7), 400);
    m.end(381);
    due("still too many", m.feed(1, 1, 1, 1, 1), NONE);
    m.end(380);
    due("just", m.feed(1, 1, 1, 1, 1), 400);
    // The highest byte goes first: "grow" "   1" "0   " "    " "   ;".
    MarshLights n = new MarshLights();
    n.feed(0x67726f77, 0x20202031, 0x30202020, 0x20202020, 0x2020203b);
    due("in their order", n.rules(), 0);
    due("10", n.grown(1, 0, 0, 0), 10);
  }

  private static void end() {
    MarshLights m = new MarshLights();
    due("of nothing", m.end(0), true);
    due("too many", m.end(1), false);
    due("below 0", m.end(-1), false);
    m.feed(0x67726f77, 0x20313030, 0x3b202020, 0x20202020, 0x20202020);
    due("too many", m.end(21), false);
    due("all", m.end(20), true);
    due("count", m.count(7), 20);
    due("some", m.end(8), true);
    due("count", m.count(7), 8);
    due("what is gone stays gone", m.end(9), false);
    due("least", m.end(Integer.MIN_VALUE), false);
    due("cut", m.fault(), 8);
    due("none", m.end(0), true);
    due("count", m.count(7), 0);
  }

  private static void fault() {
    String[] good = {"grow 1;", "grow(1);", " \n grow\n0 ; ", "say star if 1<2;", "say none if lights=1 and hull<2 and days=papers;",
        "say lamp if minute+way-slope*3<(4);grow 9999;", "grow 0009999;", "grow 00000000000000000001;", "grow1;",
        "say flight if 1=1;say flare if 1=1;say balloon if 1=1;say burning if 1=1;", "grow ((((((((1))))))));",
        "grow (((1)))*((((((((2))))))));", "say star if(1)<(2)and 3=4;grow 1;say star if 1<2;"};
    for (String text : good) due("fault of " + text, faultOf(text), NONE);
    faulty("", 0);
    faulty("   ", 3);
    faulty("\n", 1);
    faulty("grow", 4);
    faulty("grow ", 5);
    faulty("grow 1", 6);
    faulty("grow 1  ", 8);
    faulty("grow 1; ;", 8);
    faulty("grow 1;grow 2;", 7);
    faulty("grow 1;x", 7);
    faulty("grow 10000;", 5);
    faulty("grow 99999999999999999999;", 5);
    faulty("grow 4294967297;", 5);
    faulty("grow 1+;", 7);
    faulty("grow 1*;", 7);
    faulty("grow 2*(;", 8);
    faulty("growz 1;", 0);
    faulty("grow +1;", 5);
    faulty("grow -1;", 5);
    faulty("grow 1 2;", 7);
    faulty("grow 1-*2;", 7);
    faulty("grow 1<2;", 6);
    faulty("grow (1;", 7);
    faulty("grow 1);", 6);
    faulty("grow ();", 6);
    faulty("grow light;", 5);
    faulty("grow lightss;", 5);
    faulty("grow star;", 5);
    faulty("grow lightshull;", 5);
    faulty("Grow 1;", 0);
    faulty("grow\t1;", 4);
    faulty("grow 1;#", 7);
    faulty("grow ) #", 5);
    faulty("# grow )", 0);
    faulty("gro w 1;", 0);
    faulty("grow 1;\u00e4", 7);
    faulty("grow 1;\u0000", 7);
    faulty("grow(((((((((1)))))))));", 12);
    faulty("grow 1*(((((((((1)))))))));", 15);
    faulty("say", 3);
    faulty("say if", 4);
    faulty("say grow if 1<2;", 4);
    faulty("say lights if 1<2;", 4);
    faulty("say star 1<2;", 9);
    faulty("say star if", 11);
    faulty("say star if;", 11);
    faulty("say star if 1;", 13);
    faulty("say star if 1<", 14);
    faulty("say star if 1<2<3;", 15);
    faulty("say star if 1<2 3;", 16);
    faulty("say star if 1<2 and;", 19);
    faulty("say star if 1<2 and 3;", 21);
    faulty("say star if 1<;", 14);
    faulty("say star if <1;", 12);
    faulty("say star if 1<2 and 3=;", 22);
    faulty("say star if (((((((((1)))))))))<1;", 20);
    faulty("say star if 1<(((((((((1)))))))));", 22);
    due("8 deep in clauses", faultOf("say star if ((((((((1))))))))<((((((((2))))))));"), NONE);
    faulty("say star if (1<2);", 14);
    faulty("say star if 1<2 say star if 1<2;", 16);
    faulty("say star if 1>2;", 13);
    faulty("saystar if 1<2;", 0);
    String say = "say none if 1=1;";
    due("12 clauses", faultOf(say.repeat(12)), NONE);
    faulty(say.repeat(13), 192);
    faulty(say.repeat(12) + "say #", 192);
    due("12 clauses and grow", faultOf(say.repeat(12) + "grow 1;"), NONE);
    faulty("grow " + "1+".repeat(197) + ";", 399);
    due("400 bytes", faultOf("grow " + "1+".repeat(197) + "1"), 400);
    due("400 bytes that are rules", faultOf("grow" + "(1)+".repeat(98) + "(1);"), NONE);
    faulty("(".repeat(400), 0);
    faulty(";".repeat(400), 0);
  }

  private static void faulty(String text, int place) { due("fault of " + text, faultOf(text), place); }

  private static void rules() {
    MarshLights m = new MarshLights();
    m.seer(0);
    m.tell(0, 0, 0, 0, 5);
    due("empty", m.rules(), NONE);
    write(m, "say lamp if 1=1;say star if 1=1;grow lights+1;");
    due("two clauses", m.rules(), 2);
    due("the text is empty", m.count(7), 0);
    due("clauses", m.count(4), 2);
    due("office", m.office(0, 0, 0, 0), 3);
    due("grown", m.grown(5, 0, 0, 0), 6);
    write(m, "say flare if 1=1;say");
    due("fault", m.rules(), NONE);
    due("the text stays", m.count(7), 20);
    due("the rules stay", m.office(0, 0, 0, 0), 3);
    due("clauses stay", m.count(4), 2);
    due("grow stays", m.grown(5, 0, 0, 0), 6);
    due("looking changes nothing", m.fault(), 20);
    due("the rules stay", m.office(0, 0, 0, 0), 3);
    m.end(17);
    due("no fault", m.fault(), NONE);
    due("the rules stay", m.office(0, 0, 0, 0), 3);
    due("in place of those ahead", m.rules(), 1);
    due("office", m.office(0, 0, 0, 0), 2);
    due("grow is gone", m.grown(5, 0, 0, 0), 5);
    write(m, "grow 3;");
    due("grow alone", m.rules(), 0);
    due("clauses are gone", m.office(0, 0, 0, 1), NONE);
    due("grown", m.grown(5, 0, 0, 0), 3);
    due("empty again", m.rules(), NONE);
    due("rules stay", m.grown(5, 0, 0, 0), 3);
    for (int i = 1; i <= 9; i++) {
      write(m, "grow " + "1+".repeat(i) + "lights" + "*1".repeat(160) + ";");
      due("rules again", m.rules(), 0);
      due("grown", m.grown(5, 0, 0, 0), 5 + i);
    }
  }

  private static void office() {
    MarshLights m = ruled("say star if lights=1;say flight if hull=1 and days<papers;say flare if minute=7;say lamp if way=33;"
        + "say balloon if slope=44;say burning if days=3 and papers=2;say none if 0=1 or".replace(" or", ";")
        + "say none if 9<days*2-lights;");
    m.seer(0);
    m.star(33, 44, 0);
    m.lamp(p(0, 10), 5, 1, 0);
    m.tell(0, 9009, 90044, 90044, 5);
    m.tell(0, 9009, 33500, 33044, 5);
    m.tell(0, 7009, 33044, 33044, 12);
    m.tell(0, 9009, 33044, 33044, 1);
    m.tell(0, 9009, 35046, 33044, 5);
    m.tell(0, 9009, 64050, 64050, 5);
    due("balloon", m.office(0, 0, 0, 0), 4);
    due("its clause", m.office(0, 0, 0, 1), 4);
    due("nothing fits: not hasty", m.office(0, 0, 0, 2), 0);
    due("lamp", m.office(1, 0, 0, 0), 3);
    due("flare by the first minute", m.office(2, 0, 0, 0), 2);
    due("hasty: a star fits", m.office(2, 0, 0, 2), 1);
    due("flight by the days", m.office(2, 1, 2, 0), 1);
    due("its clause", m.office(2, 1, 2, 1), 1);
    due("not less", m.office(2, 2, 2, 0), 2);
    due("star by a clause", m.office(3, 50, 50, 0), 0);
    due("its clause", m.office(3, 50, 50, 1), 0);
    due("not hasty", m.office(3, 50, 50, 2), 0);
    due("star without", m.office(4, 0, 0, 0), 0);
    due("no clause", m.office(4, 0, 0, 1), NONE);
    due("not hasty", m.office(4, 0, 0, 2), 0);
    due("burning", m.office(4, 3, 2, 0), 5);
    due("hasty", m.office(4, 3, 2, 2), 1);
    due("not both", m.office(4, 3, 3, 0), 0);
    due("none", m.office(4, 8, 3, 0), 6);
    due("none's clause", m.office(4, 8, 3, 1), 7);
    due("none is always hasty", m.office(4, 8, 3, 2), 1);
    due("not less", m.office(4, 7, 3, 0), 0);
    due("none, but nothing fits", m.office(1, 99, 0, 2), 0);
    due("the lamp fits, star is said", m.office(5, 0, 0, 2), 1);
    due("what", m.office(0, 0, 0, 3), NONE);
    due("what", m.office(0, 0, 0, -1), NONE);
    due("none such", m.office(6, 0, 0, 0), NONE);
    due("none such", m.office(-1, 0, 0, 0), NONE);
    due("days", m.office(0, 100, 0, 0), NONE);
    due("days", m.office(0, -1, 0, 0), NONE);
    due("papers", m.office(0, 0, 100, 0), NONE);
    due("papers", m.office(0, 0, -1, 0), NONE);
    due("99", m.office(0, 99, 99, 0), 4);
    // What grows is not what the office goes by.
    String deep = "0+1*1";
    for (int i = 0; i < 8; i++) deep = "0+1*(" + deep + ")";
    MarshLights d = ruled("say lamp if 1=1 and 1=" + deep + ";say flare if 2=" + deep + " and 1=1;");
    d.seer(0);
    d.tell(0, 0, 0, 0, 2);
    due("deep", d.office(0, 0, 0, 0), 3);
    MarshLights g = ruled("grow 9;say lamp if lights=2;");
    g.seer(0);
    g.tell(0, 0, 0, 0, 2);
    due("as told", g.office(0, 0, 0, 0), 3);
    MarshLights o = ruled("grow minute+way+slope+3;");
    o.seer(0);
    o.tell(0, 4005, 6007, 8009, 2);
    due("no clause", o.office(0, 1, 1, 0), 0);
    due("grow has no telling's minute, way and slope", o.grown(1, 0, 0, 0), 3);
  }

  private static void grown() {
    due("number", growing("42", 1, 0, 0, 0), 42);
    due("lights", growing("lights", 9, 1, 2, 3), 9);
    due("hull", growing("hull+1", 9, 1, 2, 3), 2);
    due("no hull", growing("hull+1", 9, 0, 2, 3), 1);
    due("days", growing("days", 9, 1, 22, 3), 22);
    due("papers", growing("papers", 9, 1, 22, 33), 33);
    due("minute", growing("minute+way+slope+5", 9, 1, 22, 33), 5);
    due("products ahead of sums", growing("2+3*4", 1, 0, 0, 0), 14);
    due("products ahead of sums", growing("2*3+4", 1, 0, 0, 0), 10);
    due("brackets", growing("(2+3)*4", 1, 0, 0, 0), 20);
    due("from the left", growing("20-5-3", 1, 0, 0, 0), 12);
    due("brackets", growing("20-(5-3)", 1, 0, 0, 0), 18);
    due("deep", growing("((((((((1+1)+1)+1)+1)+1)+1)+1)+1)", 1, 0, 0, 0), 9);
    due("deep to the right", growing("1+(1+(1+(1+(1+(1+(1+(1+(1+1*2))))))))", 1, 0, 0, 0), 11);
    due("waiting sums and products", growing("1+2*(1+2*(1+2*(1+2*(1+1))))", 1, 0, 0, 0), 47);
    due("at least 1", growing("0", 1, 0, 0, 0), 1);
    due("at least 1", growing("0-9999", 1, 0, 0, 0), 1);
    due("at most 99", growing("100", 1, 0, 0, 0), 99);
    due("99", growing("99", 1, 0, 0, 0), 99);
    due("a product is brought to 1000000", growing("9999*9999-9999*100+5", 1, 0, 0, 0), 99);
    due("just 1000000", growing("9999*9999-9999*100-90", 1, 0, 0, 0), 10);
    due("a sum is brought to 1000000", growing("1000*1000+7-9999*100-90", 1, 0, 0, 0), 10);
    due("below to -1000000", growing("(0-9999)*9999+9999*100+110", 1, 0, 0, 0), 10);
    due("a difference", growing("0-1000*1000-7+9999*100+110", 1, 0, 0, 0), 10);
    due("each time", growing("9999*9999*9999-9999*100-90", 1, 0, 0, 0), 10);
    due("great products", growing("9999*9999*(9999*9999)-9999*100-90", 1, 0, 0, 0), 10);
    MarshLights m = new MarshLights();
    due("without grow", m.grown(9, 1, 99, 99), 9);
    due("without grow", m.grown(1, 0, 0, 0), 1);
    int[][] no = {{0, 0, 0, 0}, {10, 0, 0, 0}, {1, -1, 0, 0}, {1, 2, 0, 0}, {1, 0, -1, 0}, {1, 0, 100, 0}, {1, 0, 0, -1},
        {1, 0, 0, 100}};
    for (int[] n : no) due("grown " + java.util.Arrays.toString(n), m.grown(n[0], n[1], n[2], n[3]), NONE);
    MarshLights s = ruled("say star if 1=1;");
    due("rules without grow", s.grown(6, 0, 0, 0), 6);
  }

  private static void before() {
    MarshLights m = new MarshLights();
    for (int i = 1; i <= 9; i++) due("without grow " + i, m.before(i, 1, 2, 3), 1 << (i - 1));
    due("beyond 9", m.before(10, 0, 0, 0), 0);
    due("99", m.before(99, 0, 0, 0), 0);
    int[][] no = {{0, 0, 0, 0}, {100, 0, 0, 0}, {-1, 0, 0, 0}, {1, -1, 0, 0}, {1, 2, 0, 0}, {1, 0, -1, 0}, {1, 0, 100, 0},
        {1, 0, 0, -1}, {1, 0, 0, 100}};
    for (int[] n : no) due("before " + java.util.Arrays.toString(n), m.before(n[0], n[1], n[2], n[3]), NONE);
    MarshLights g = ruled("grow lights*days-papers+hull;");
    due("brought to 1", g.before(1, 0, 2, 6), 0b000000111);
    due("five", g.before(4, 0, 2, 6), 0b000010000);
    due("with a hull", g.before(5, 1, 2, 6), 0b000010000);
    due("none", g.before(5, 0, 2, 6), 0);
    due("brought to 99", g.before(99, 0, 50, 0), 0b111111110);
  }

  private static void draw() {
    MarshLights m = new MarshLights();
    due("no thing, no seer", m.draw(1, 1), NONE);
    m.star(200, 995, 2);
    due("no seer", m.draw(1, 1), NONE);
    m.seer(p(5, 5));
    int[][] no = {{-1, 1}, {1000001, 1}, {0, 0}, {0, 21}, {0, -1}};
    for (int[] n : no) due("draw " + n[0] + " " + n[1], m.draw(n[0], n[1]), NONE);
    due("count", m.count(3), 0);
    MarshLights s = new MarshLights();
    s.seer(0);
    due("no thing", s.draw(1, 1), NONE);
    // Seed 0: x is 12345 at first, so that the first lot below 240 is the third x.
    due("one", m.draw(0, 1), 1);
    long x = 0;
    long[] lots = new long[16];
    for (int i = 0; i < 16; i++) {
      x = (x * 1103515245L + 12345L) & 0x7fffffffL;
      lots[i] = x / 256;
    }
    drawn(m, 0, lots, 0);
    m.undo();
    due("two", m.draw(0, 2), 2);
    drawn(m, 0, lots, 0);
    drawn(m, 1, lots, 8);
    due("the same again", m.draw(0, 1), 1);
    drawn(m, 2, lots, 0);
    for (int seed = 1; seed <= 300; seed++) {
      MarshLights one = new MarshLights();
      one.star(200, 995, 2);
      one.seer(p(5, 5));
      x = seed * 17;
      for (int i = 0; i < 8; i++) {
        x = (x * 1103515245L + 12345L) & 0x7fffffffL;
        lots[i] = x / 256;
      }
      due("seed " + x, one.draw(seed * 17, 1), 1);
      drawn(one, 0, lots, 0);
    }
    due("greatest seed", m.draw(1000000, 17), 17);
    due("twenty", m.draw(5, 20), 20);
    due("not beyond 60", m.draw(6, 20), 20);
    due("not beyond 60", m.draw(7, 20), 0);
    due("count", m.count(3), 60);
    m.undo();
    due("one more", m.draw(8, 20), 1);
    for (int i = 0; i < 60; i++) {
      int slope = m.telling(i, 4);
      int last = m.telling(i, 2);
      due("slopes are brought to 999", slope <= 999 && slope >= 975, true);
      due("minutes", last - m.telling(i, 1) < 10 && last <= 239, true);
      due("it fits", m.fits(i, 0), 0);
    }
    // What isn't shown is not told, but its lots are drawn: a lamp is never lit in two minutes running.
    MarshLights u = new MarshLights();
    u.seer(p(5, 5));
    u.flare(0, p(6, 6), 0, 1);
    due("never there", u.draw(3, 20), 0);
    due("count", u.count(3), 0);
    u.star(10, 100, 0);
    MarshLights v = new MarshLights();
    v.seer(p(5, 5));
    v.star(10, 100, 0);
    v.star(10, 100, 0);
    due("all of them", v.draw(3, 20), 20);
    int told = u.draw(3, 20);
    due("some of them", told > 0 && told < 20, true);
    int k = 0;
    x = 3;
    for (int i = 0; i < 20; i++) {
      for (int j = 0; j < 8; j++) {
        x = (x * 1103515245L + 12345L) & 0x7fffffffL;
        if (j == 0 && x / 256 % 2 == 1) {
          for (int w = 0; w < 9; w++) due("telling " + i + " " + w, u.telling(k, w), v.telling(i, w));
          k++;
        }
      }
    }
    due("told", told, k);
    MarshLights h = new MarshLights();
    h.seer(p(5, 5));
    h.lamp(p(5, 9), 1, 2, 0);
    int lit = h.draw(9, 20);
    due("lit at first alone is not told", h.count(3), lit);
    due("some", lit > 0 && lit < 20, true);
    for (int i = 0; i < lit; i++) due("lit", h.telling(i, 1) % 2 + h.telling(i, 2) % 2, 0);
    int least = 999;
    for (int i = 0; i < lit; i++) least = Math.min(least, h.telling(i, 4));
    due("slopes are brought to 0", least, 0);
    MarshLights z = new MarshLights();
    z.seer(p(5, 5));
    z.star(10, 100, 0);
    z.off(0, 0);
    z.draw(77, 20);
    for (int i = 0; i < 20; i++) due("nothing off", z.telling(i, 3) * 1000 + z.telling(i, 6), 10100);
  }

  /** A telling of the star 200, 995, 2 by eight of the lots, with A = 8 and B = 20. */
  private static void drawn(MarshLights m, int telling, long[] lots, int from) {
    int first = (int) (lots[from + 2] % 240);
    int last = Math.min(239, first + (int) (lots[from + 3] % 10));
    int offWay = (int) (lots[from + 4] % 17) - 8;
    int slope = Math.min(999, 995 + (int) (lots[from + 5] % 41) - 20);
    due("seer", m.telling(telling, 0), 0);
    due("first", m.telling(telling, 1), first);
    due("last", m.telling(telling, 2), last);
    due("way", m.telling(telling, 3), (200 + first / 4 + offWay) % 256);
    due("slope", m.telling(telling, 4), slope);
    due("way at last", m.telling(telling, 5), (200 + last / 4 + offWay) % 256);
    due("slope at last", m.telling(telling, 6), slope);
    due("lights", m.telling(telling, 7), lots[from + 6] % 9 + 1);
    due("hull", m.telling(telling, 8), lots[from + 7] % 2);
  }

  private static void count() {
    MarshLights m = ruled("say star if 1=1;say lamp if 2=2;");
    m.hill(0, 0, 1);
    for (int i = 0; i < 2; i++) m.seer(0);
    for (int i = 0; i < 3; i++) m.star(0, 0, 0);
    for (int i = 0; i < 4; i++) m.tell(0, 0, 0, 0, 1);
    m.off(7, 9);
    m.feed(0, 0, 0, 0, 0);
    int[] want = {1, 2, 3, 4, 2, 7, 9, 20};
    for (int i = 0; i < 8; i++) due("count " + i, m.count(i), want[i]);
    due("what", m.count(-1), NONE);
    due("what", m.count(8), NONE);
    due("what", m.count(Integer.MIN_VALUE), NONE);
  }
}
