import java.util.ArrayList;
import java.util.List;

/**
 * The document said once more, as slowly and literally as can be: nothing is kept that can be worked out, and
 * every number is tried where the program calculates. Runs of calls are compared with it.
 */
final class Model {
  static final int NONE = -1;
  static final int VOID = Integer.MIN_VALUE;

  record Hill(int one, int other, int height) {
    boolean has(int x, int y) {
      return between(x, one / 64, other / 64) && between(y, one % 64, other % 64);
    }
    private static boolean between(int n, int a, int b) { return (a <= n && n <= b) || (b <= n && n <= a); }
  }
  record Point(int x, int y, int z) { }
  record Thing(int kind, int first, int last, int place, int z, int dx, int dy, int d, int fall, int period, int rest,
      int way, int slope, int turn) { }
  record Telling(int seer, int first, int last, int w1, int s1, int w2, int s2, int lights, int hull) { }

  final List<Hill> hills = new ArrayList<>();
  final List<Integer> seers = new ArrayList<>();
  final List<Thing> things = new ArrayList<>();
  final List<Telling> tellings = new ArrayList<>();
  int a = 8;
  int b = 20;
  String text = "";
  Book book = new Book();

  static boolean in(int n, int least, int greatest) { return least <= n && n <= greatest; }
  static boolean place(int p) { return in(p, 0, 4095); }
  static boolean minute(int m) { return in(m, 0, 239); }
  static boolean span(int m) { return m >= 0 && minute(m / 1000) && minute(m % 1000) && m / 1000 <= m % 1000; }

  int groundOf(int x, int y) {
    int g = 0;
    for (Hill h : hills) if (h.has(x, y)) g = Math.max(g, h.height);
    return g;
  }

  int hill(int one, int other, int height) {
    if (!place(one) || !place(other) || !in(height, 1, 60) || hills.size() == 8) return NONE;
    hills.add(new Hill(one, other, height));
    return hills.size() - 1;
  }

  int seer(int place) {
    if (!place(place) || seers.size() == 20) return NONE;
    seers.add(place);
    return seers.size() - 1;
  }

  private int keep(Thing t) {
    if (things.size() == 12) return NONE;
    things.add(t);
    return things.size() - 1;
  }

  int star(int way, int slope, int turn) {
    if (!in(way, 0, 255) || !in(slope, 0, 999) || !in(turn, -9, 9)) return NONE;
    return keep(new Thing(0, 0, 239, 0, 0, 0, 0, 1, 0, 1, 0, way, slope, turn));
  }

  int flies(int kind, int minutes, int place, int z, int speed) {
    int d = kind == 1 ? 4 : kind == 4 ? 16 : kind == 5 ? 1 : 0;
    if (d == 0 || !span(minutes) || !place(place) || !in(z, 0, 255)) return NONE;
    if (speed < 0 || !in(speed / 100 - 20, -20, 20) || !in(speed % 100 - 20, -20, 20)) return NONE;
    return keep(new Thing(kind, minutes / 1000, minutes % 1000, place, z, speed / 100 - 20, speed % 100 - 20, d, 0, 1, 0,
        0, 0, 0));
  }

  int flare(int minutes, int place, int z, int fall) {
    if (!span(minutes) || !place(place) || !in(z, 0, 255) || !in(fall, 0, 20)) return NONE;
    return keep(new Thing(2, minutes / 1000, minutes % 1000, place, z, 0, 0, 1, fall, 1, 0, 0, 0, 0));
  }

  int lamp(int place, int height, int period, int rest) {
    if (!place(place) || !in(height, 0, 60) || !in(period, 1, 30) || !in(rest, 0, period - 1)) return NONE;
    return keep(new Thing(3, 0, 239, place, height, 0, 0, 1, 0, period, rest, 0, 0, 0));
  }

  int ground(int place) { return place(place) ? groundOf(place / 64, place % 64) : NONE; }

  static int floor(int n, int d) { return (int) Math.floor((double) n / d); }

  /** Where it is, or null if it is not there. */
  Point where(Thing t, int m) {
    if (t.kind == 0) return null;
    int x = t.place / 64;
    int y = t.place % 64;
    if (t.kind == 3) return new Point(x, y, groundOf(x, y) + t.z);
    if (m < t.first || m > t.last) return null;
    int later = m - t.first;
    if (t.kind == 2) {
      int z = t.z - t.fall * later;
      return z > groundOf(x, y) ? new Point(x, y, z) : null;
    }
    return new Point(x + floor(t.dx * later, t.d), y + floor(t.dy * later, t.d), t.z);
  }

  int at(int thing, int m, int what) {
    if (!in(thing, 0, things.size() - 1) || !minute(m) || !in(what, 0, 3)) return VOID;
    Thing t = things.get(thing);
    if (what == 3) return t.kind;
    Point p = where(t, m);
    return p == null ? VOID : what == 0 ? p.x : what == 1 ? p.y : p.z;
  }

  int eye(int place) { return groundOf(place / 64, place % 64) + 1; }

  static int way(int dx, int dy) {
    int s = Math.abs(dx) + Math.abs(dy);
    if (s == 0) return 0;
    if (dx > 0 && dy >= 0) return 64 * dy / s;
    if (dx <= 0 && dy > 0) return 64 + 64 * Math.abs(dx) / s;
    if (dx < 0 && dy <= 0) return 128 + 64 * Math.abs(dy) / s;
    return 192 + 64 * dx / s;
  }

  int slope(int place, Point p) {
    int s = Math.abs(p.x - place / 64) + Math.abs(p.y - place % 64);
    return s == 0 ? 999 : Math.max(-999, Math.min(999, floor(100 * (p.z - eye(place)), s)));
  }

  int hider(int place, Point p) {
    int x = place / 64;
    int y = place % 64;
    int eye = eye(place);
    for (int k = 1; k <= 15; k++) {
      int gx = x + floor((p.x - x) * k, 16);
      int gy = y + floor((p.y - y) * k, 16);
      int ground = groundOf(gx, gy);
      if (ground > eye + floor((p.z - eye) * k, 16)) {
        for (int h = 0; h < hills.size(); h++) {
          if (hills.get(h).has(gx, gy) && hills.get(h).height == ground) return h;
        }
      }
    }
    return NONE;
  }

  /** WAY, SLOPE and HILL, or null if it is not there (lit). */
  int[] look(Thing t, int place, int m) {
    if (t.kind == 0) return new int[] {Math.floorMod(t.way + floor(t.turn * m, 8), 256), t.slope, NONE};
    if (t.kind == 3 && m % t.period != t.rest) return null;
    Point p = where(t, m);
    if (p == null) return null;
    return new int[] {way(p.x - place / 64, p.y - place % 64), slope(place, p), hider(place, p)};
  }

  boolean shown(Thing t, int place, int m) {
    int[] l = look(t, place, m);
    return l != null && l[2] == NONE;
  }

  int seen(int thing, int seer, int m, int what) {
    if (!in(thing, 0, things.size() - 1) || !in(seer, 0, seers.size() - 1) || !minute(m) || !in(what, 0, 3)) return VOID;
    int[] l = look(things.get(thing), seers.get(seer), m);
    if (what == 2) return l != null && l[2] == NONE ? 1 : 0;
    return l == null ? VOID : what == 3 ? l[2] : l[what];
  }

  int tell(int seer, int minutes, int begin, int end, int lights) {
    if (!in(seer, 0, seers.size() - 1) || !span(minutes) || begin < 0 || begin / 1000 > 255 || end < 0 || end / 1000 > 255)
      return NONE;
    if (!in(lights, 1, 9) && !in(lights, 11, 19) || tellings.size() == 60) return NONE;
    tellings.add(new Telling(seer, minutes / 1000, minutes % 1000, begin / 1000, begin % 1000, end / 1000, end % 1000,
        lights % 10, lights / 10));
    return tellings.size() - 1;
  }

  int undo() {
    if (tellings.isEmpty()) return NONE;
    tellings.remove(tellings.size() - 1);
    return tellings.size();
  }

  boolean off(int na, int nb) {
    if (!in(na, 0, 32) || !in(nb, 0, 200)) return false;
    a = na;
    b = nb;
    return true;
  }

  int telling(int n, int what) {
    if (!in(n, 0, tellings.size() - 1) || !in(what, 0, 8)) return NONE;
    Telling t = tellings.get(n);
    return new int[] {t.seer, t.first, t.last, t.w1, t.s1, t.w2, t.s2, t.lights, t.hull}[what];
  }

  static int round(int one, int other) {
    int n = 0;
    while (Math.floorMod(one + n, 256) != other && Math.floorMod(one - n, 256) != other) n++;
    return n;
  }

  boolean near(int[] l, int way, int slope) { return round(l[0], way) <= a && Math.abs(l[1] - slope) <= b; }

  List<Integer> fitting(Telling t) {
    List<Integer> fit = new ArrayList<>();
    int place = seers.get(t.seer);
    for (int i = 0; i < things.size(); i++) {
      Thing g = things.get(i);
      if (shown(g, place, t.first) && shown(g, place, t.last) && near(look(g, place, t.first), t.w1, t.s1)
          && near(look(g, place, t.last), t.w2, t.s2)) fit.add(i);
    }
    return fit;
  }

  private static int pick(List<Integer> list, int k) {
    return k == NONE ? list.size() : in(k, 0, list.size() - 1) ? list.get(k) : NONE;
  }

  int fits(int n, int k) { return in(n, 0, tellings.size() - 1) ? pick(fitting(tellings.get(n)), k) : NONE; }

  int left(int k) {
    List<Integer> left = new ArrayList<>();
    for (int i = 0; i < tellings.size(); i++) if (fitting(tellings.get(i)).isEmpty()) left.add(i);
    return pick(left, k);
  }

  int fewest() {
    List<List<Integer>> needs = new ArrayList<>();
    for (Telling t : tellings) if (!fitting(t).isEmpty()) needs.add(fitting(t));
    for (int n = 0; n <= 12; n++) {
      for (int set = 0; set < 4096; set++) {
        int bits = set;
        if (Integer.bitCount(bits) == n && needs.stream().allMatch(need -> need.stream().anyMatch(i -> (bits >> i) % 2 == 1)))
          return set;
      }
    }
    return NONE;
  }

  int joined(int one, int other) {
    if (!in(one, 0, tellings.size() - 1) || !in(other, 0, tellings.size() - 1)) return NONE;
    Telling s = tellings.get(one);
    Telling t = tellings.get(other);
    if (s.seer == t.seer) return NONE;
    boolean common = false;
    for (int m = s.first; m <= s.last; m++) common |= in(m, t.first, t.last);
    if (!common) return NONE;
    List<Integer> f = fitting(s);
    List<Integer> g = fitting(t);
    if (f.isEmpty() || g.isEmpty()) return 0;
    return f.stream().anyMatch(g::contains) ? 2 : 1;
  }

  int cross(int one, int other, int what) {
    if (!in(one, 0, tellings.size() - 1) || !in(other, 0, tellings.size() - 1) || !in(what, 0, 5)) return NONE;
    Telling s = tellings.get(one);
    Telling t = tellings.get(other);
    if (s.seer == t.seer || s.first != t.first) return NONE;
    int ps = seers.get(s.seer);
    int pt = seers.get(t.seer);
    int[] r = {0, 0, 99, -1, 99, -1};
    for (int x = 0; x < 64; x++) {
      for (int y = 0; y < 64; y++) {
        if (x * 64 + y == ps || x * 64 + y == pt) continue;
        if (round(way(x - ps / 64, y - ps % 64), s.w1) > a || round(way(x - pt / 64, y - pt % 64), t.w1) > a) continue;
        boolean height = false;
        for (int z = 0; z <= 255 && !height; z++) {
          Point p = new Point(x, y, z);
          height = Math.abs(slope(ps, p) - s.s1) <= b && Math.abs(slope(pt, p) - t.s1) <= b;
        }
        r[0]++;
        if (height) r[1]++;
        r[2] = Math.min(r[2], x);
        r[3] = Math.max(r[3], x);
        r[4] = Math.min(r[4], y);
        r[5] = Math.max(r[5], y);
      }
    }
    return r[0] == 0 ? NONE : r[what];
  }

  private int outOf(Thing t, int place, int most) {
    for (int m = t.first + 1; m <= Math.min(t.last + 1, most); m++) {
      if (shown(t, place, m - 1) && (m > t.last || !shown(t, place, m))) return m;
    }
    return NONE;
  }

  int out(int flare, int seer) {
    if (!in(flare, 0, things.size() - 1) || !in(seer, 0, seers.size() - 1) || things.get(flare).kind != 2) return NONE;
    return outOf(things.get(flare), seers.get(seer), 240);
  }

  int outs(int seer, int minutes, int z, int fall) {
    if (!in(seer, 0, seers.size() - 1) || !span(minutes) || !in(z, 0, 255) || !in(fall, 0, 20)) return NONE;
    int second = minutes % 1000;
    if (!in(second - minutes / 1000, 1, 20)) return NONE;
    int n = 0;
    for (int p = 0; p < 4096; p++) {
      Thing t = new Thing(2, minutes / 1000, 239, p, z, 0, 0, 1, fall, 1, 0, 0, 0, 0);
      if (outOf(t, seers.get(seer), second) == second) n++;
    }
    return n;
  }

  int size(int n, int thing, int size, int far) {
    if (!in(n, 0, tellings.size() - 1) || !in(thing, 0, things.size() - 1) || !in(size, 1, 10000) || !in(far, 1, 10000))
      return NONE;
    Telling t = tellings.get(n);
    Point p = where(things.get(thing), t.first);
    if (p == null) return NONE;
    int place = seers.get(t.seer);
    return (int) ((long) size * (Math.abs(p.x - place / 64) + Math.abs(p.y - place % 64)) / far);
  }

  int hulls(int lights, int what) {
    if (!in(lights, 1, 9) || !in(what, 0, 1)) return NONE;
    int n = 0;
    for (Telling t : tellings) if (!fitting(t).isEmpty() && t.lights >= lights && (what == 0 || t.hull == 1)) n++;
    return n;
  }

  int ask(int what) {
    int[] best = {NONE, NONE, 0};
    for (int i = 0; i < tellings.size(); i++) {
      Telling t = tellings.get(i);
      List<Integer> fit = fitting(t);
      int place = seers.get(t.seer);
      for (int m = t.first; m <= t.last; m++) {
        int couples = 0;
        for (int g : fit) {
          for (int h : fit) {
            if (g >= h) continue;
            boolean s = shown(things.get(g), place, m);
            boolean u = shown(things.get(h), place, m);
            if (s != u) couples++;
            else if (s && round(look(things.get(g), place, m)[0], look(things.get(h), place, m)[0]) > a) couples++;
          }
        }
        if (couples > best[2]) best = new int[] {i, m, couples};
      }
    }
    return best[2] == 0 || !in(what, 0, 2) ? NONE : best[what];
  }

  // ---- rules ----

  interface Sum { long worth(int[] v); }
  record Clause(int kind, List<Sum> ifs) { }
  static final class Book {
    Sum grow;
    final List<Clause> clauses = new ArrayList<>();
  }
  static final class Fault extends Exception {
    private static final long serialVersionUID = 1;
    final int place;
    Fault(int place) { this.place = place; }
  }

  /** Reads by taking what must come next off the text itself. */
  static final class Taker {
    static final List<String> KINDS = List.of("star", "flight", "flare", "lamp", "balloon", "burning", "none");
    static final List<String> NAMES = List.of("lights", "hull", "days", "papers", "minute", "way", "slope");
    final String text;
    int place;
    String token;
    Taker(String text) { this.text = text; step(0); }

    /** To the first token from there on; "" at the end, "?" for a byte that begins none. */
    void step(int from) {
      place = from;
      while (place < text.length() && (text.charAt(place) == ' ' || text.charAt(place) == '\n')) place++;
      int to = place;
      while (to < text.length() && text.charAt(to) >= 'a' && text.charAt(to) <= 'z') to++;
      if (to == place) while (to < text.length() && text.charAt(to) >= '0' && text.charAt(to) <= '9') to++;
      if (to == place && to < text.length()) to++;
      token = text.substring(place, to);
      length = to - place;
      if (length == 1 && !token.matches("[a-z0-9+*<=();-]")) token = "?";
    }
    int length;
    void step() { step(place + length); }
    Fault wrong() { return new Fault(place); }
    void must(String t) throws Fault {
      if (!token.equals(t)) throw wrong();
      step();
    }
    Book book() throws Fault {
      Book book = new Book();
      if (token.isEmpty()) throw wrong();
      while (!token.isEmpty()) {
        if (token.equals("grow") && book.grow == null) {
          step();
          book.grow = sum(0);
        } else if (token.equals("say") && book.clauses.size() < 12) {
          step();
          int kind = KINDS.indexOf(token);
          if (kind < 0) throw wrong();
          step();
          must("if");
          List<Sum> ifs = new ArrayList<>();
          ifs.add(comparison());
          while (token.equals("and")) {
            step();
            ifs.add(comparison());
          }
          book.clauses.add(new Clause(kind, ifs));
        } else throw wrong();
        must(";");
      }
      return book;
    }
    Sum comparison() throws Fault {
      Sum one = sum(0);
      boolean less = token.equals("<");
      if (!less && !token.equals("=")) throw wrong();
      step();
      Sum other = sum(0);
      return v -> (less ? one.worth(v) < other.worth(v) : one.worth(v) == other.worth(v)) ? 1 : 0;
    }
    static long cut(long n) { return Math.max(-1000000, Math.min(1000000, n)); }
    Sum sum(int depth) throws Fault {
      Sum s = product(depth);
      while (token.equals("+") || token.equals("-")) {
        int sign = token.equals("+") ? 1 : -1;
        step();
        Sum one = s;
        Sum other = product(depth);
        s = v -> cut(one.worth(v) + sign * other.worth(v));
      }
      return s;
    }
    Sum product(int depth) throws Fault {
      Sum s = factor(depth);
      while (token.equals("*")) {
        step();
        Sum one = s;
        Sum other = factor(depth);
        s = v -> cut(one.worth(v) * other.worth(v));
      }
      return s;
    }
    Sum factor(int depth) throws Fault {
      if (token.matches("0*[0-9]{1,4}")) {
        int n = Integer.parseInt(token.replaceFirst("^0+(?=.)", ""));
        step();
        return v -> n;
      }
      int name = NAMES.indexOf(token);
      if (name >= 0) {
        step();
        return v -> v[name];
      }
      if (!token.equals("(") || depth == 8) throw wrong();
      step();
      Sum s = sum(depth + 1);
      must(")");
      return s;
    }
  }

  int feed(int... numbers) {
    if (text.length() + 20 > 400) return NONE;
    StringBuilder s = new StringBuilder(text);
    for (int n : numbers) for (int i = 3; i >= 0; i--) s.append((char) ((n >>> (8 * i)) & 255));
    text = s.toString();
    return text.length();
  }

  boolean end(int n) {
    if (!in(n, 0, text.length())) return false;
    text = text.substring(0, n);
    return true;
  }

  int fault() {
    try {
      new Taker(text).book();
      return NONE;
    } catch (Fault f) {
      return f.place;
    }
  }

  int rules() {
    try {
      book = new Taker(text).book();
      text = "";
      return book.clauses.size();
    } catch (Fault f) {
      return NONE;
    }
  }

  int office(int n, int days, int papers, int what) {
    if (!in(n, 0, tellings.size() - 1) || !in(days, 0, 99) || !in(papers, 0, 99) || !in(what, 0, 2)) return NONE;
    Telling t = tellings.get(n);
    int[] v = {t.lights, t.hull, days, papers, t.first, t.w1, t.s1};
    int clause = NONE;
    int kind = 0;
    for (int i = book.clauses.size() - 1; i >= 0; i--) {
      if (book.clauses.get(i).ifs.stream().allMatch(s -> s.worth(v) == 1)) {
        clause = i;
        kind = book.clauses.get(i).kind;
      }
    }
    if (what == 0) return kind;
    if (what == 1) return clause;
    int said = kind;
    List<Integer> fit = fitting(t);
    if (fit.isEmpty()) return 0;
    return said != 6 && fit.stream().anyMatch(g -> things.get(g).kind == said) ? 0 : 1;
  }

  int grown(int lights, int hull, int days, int papers) {
    if (!in(lights, 1, 9) || !in(hull, 0, 1) || !in(days, 0, 99) || !in(papers, 0, 99)) return NONE;
    if (book.grow == null) return lights;
    return (int) Math.max(1, Math.min(99, book.grow.worth(new int[] {lights, hull, days, papers, 0, 0, 0})));
  }

  int before(int grown, int hull, int days, int papers) {
    if (!in(grown, 1, 99) || !in(hull, 0, 1) || !in(days, 0, 99) || !in(papers, 0, 99)) return NONE;
    int bits = 0;
    for (int l = 9; l >= 1; l--) bits = bits * 2 + (grown(l, hull, days, papers) == grown ? 1 : 0);
    return bits;
  }

  private long x;
  private int lot(int n) {
    x = (x * 1103515245L + 12345L) % 2147483648L;
    return (int) (x / 256 % n);
  }

  int draw(int seed, int n) {
    if (!in(seed, 0, 1000000) || !in(n, 1, 20) || things.isEmpty() || seers.isEmpty()) return NONE;
    x = seed;
    int told = 0;
    for (int i = 0; i < n; i++) {
      Thing t = things.get(lot(things.size()));
      int seer = lot(seers.size());
      int first = lot(240);
      int last = Math.min(239, first + lot(10));
      int w = lot(2 * a + 1) - a;
      int s = lot(2 * b + 1) - b;
      int lights = lot(9) + 1;
      int hull = lot(2);
      int place = seers.get(seer);
      if (tellings.size() < 60 && shown(t, place, first) && shown(t, place, last)) {
        int[] f = look(t, place, first);
        int[] l = look(t, place, last);
        tellings.add(new Telling(seer, first, last, Math.floorMod(f[0] + w, 256), Math.max(0, Math.min(999, f[1] + s)),
            Math.floorMod(l[0] + w, 256), Math.max(0, Math.min(999, l[1] + s)), lights, hull));
        told++;
      }
    }
    return told;
  }

  int count(int what) {
    if (!in(what, 0, 7)) return NONE;
    return new int[] {hills.size(), seers.size(), things.size(), tellings.size(), book.clauses.size(), a, b,
        text.length()}[what];
  }
}
