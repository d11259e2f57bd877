/** Runs of drawn calls: the program must answer as the document's slow model does. */
public final class ModelTest {
  private static final int RUNS = 640;
  // An object is used for 512 calls at most; a step takes up to 90.
  private static final int CALLS = 420;

  private long state;
  private MarshLights x;
  private Model m;
  private int run;
  private int wrong;
  private long calls;
  private int callsOfRun;

  public static void main(String[] args) {
    ModelTest test = new ModelTest();
    for (int run = 0; run < RUNS && test.wrong < 20; run++) test.one(run);
    System.out.println(test.calls + " calls, " + test.wrong + " wrong");
    if (test.wrong != 0) System.exit(1);
  }

  private int below(int n) {
    state = state * 6364136223846793005L + 1442695040888963407L;
    return (int) ((state >>> 33) % n);
  }

  private int from(int least, int greatest) { return least + below(greatest - least + 1); }

  /** Mostly from the range, at times its edges, just beyond, or far off. */
  private int arg(int least, int greatest) {
    switch (below(40)) {
      case 0: return least;
      case 1: return greatest;
      case 2: return least - 1;
      case 3: return greatest + 1;
      case 4: return below(2) == 0 ? Integer.MIN_VALUE + below(3) : Integer.MAX_VALUE - below(3);
      default: return from(least, greatest);
    }
  }

  private int span() {
    int first = arg(0, 239);
    int last = below(3) == 0 ? arg(0, 239) : Math.min(239, first + below(12));
    return below(20) == 0 ? arg(0, 239239) : first * 1000 + last;
  }

  private void same(String call, long got, long want) {
    calls++;
    callsOfRun++;
    if (got != want) {
      wrong++;
      System.out.println("run " + run + ": " + call + " answered " + got + ", the model " + want);
    }
  }

  private static long bit(boolean b) { return b ? 1 : 0; }

  private void one(int number) {
    run = number;
    callsOfRun = 0;
    state = number * 7919L + 1;
    x = new MarshLights();
    m = new Model();
    int hills = below(9);
    int seers = 1 + below(6);
    int things = below(13);
    for (int i = 0; i < hills; i++) hill();
    for (int i = 0; i < seers; i++) seer();
    for (int i = 0; i < things; i++) thing();
    if (below(2) == 0) write(sentence());
    while (callsOfRun < CALLS) step();
    for (int i = -1; i <= 8; i++) same("count " + i, x.count(i), m.count(i));
  }

  private void hill() {
    int one = arg(0, 4095);
    int other = below(2) == 0 ? arg(0, 4095) : one + from(-6, 6) * 64 + from(-6, 6);
    int h = below(3) == 0 ? 10 * from(1, 6) : arg(1, 60);
    same("hill " + one + " " + other + " " + h, x.hill(one, other, h), m.hill(one, other, h));
  }

  private void seer() {
    int p = arg(0, 4095);
    same("seer " + p, x.seer(p), m.seer(p));
  }

  private void thing() {
    int p = arg(0, 4095);
    int z = below(3) == 0 ? arg(0, 255) : arg(0, 80);
    int minutes = below(2) == 0 ? from(0, 120) * 1000 + from(100, 239) : span();
    switch (below(5)) {
      case 0: {
        int w = arg(0, 255), s = arg(0, 999), t = arg(-9, 9);
        same("star " + w + " " + s + " " + t, x.star(w, s, t), m.star(w, s, t));
        return;
      }
      case 1:
      case 2: {
        int kind = new int[] {1, 4, 5, 1, 4, 5, 1, 4, 5, arg(0, 6)}[below(10)];
        int speed = below(10) == 0 ? arg(0, 4040) : from(14, 26) * 100 + from(14, 26);
        same("flies " + kind + " " + minutes + " " + p + " " + z + " " + speed, x.flies(kind, minutes, p, z, speed),
            m.flies(kind, minutes, p, z, speed));
        return;
      }
      case 3: {
        int fall = arg(0, 20);
        same("flare " + minutes + " " + p + " " + z + " " + fall, x.flare(minutes, p, z, fall), m.flare(minutes, p, z, fall));
        return;
      }
      default: {
        int h = arg(0, 60), period = below(3) == 0 ? arg(1, 30) : from(1, 3), rest = arg(0, Math.max(0, Math.min(period, 31) - 1));
        same("lamp " + p + " " + h + " " + period + " " + rest, x.lamp(p, h, period, rest), m.lamp(p, h, period, rest));
      }
    }
  }

  private void tell() {
    int seer = arg(0, Math.max(0, m.seers.size() - 1)), minutes = span();
    int begin = arg(0, 255) * 1000 + arg(0, 999), end = arg(0, 255) * 1000 + arg(0, 999);
    int lights = arg(0, 1) * 10 + arg(1, 9);
    if (below(3) > 0 && !m.things.isEmpty() && m.seers.size() > seer && seer >= 0 && Model.span(minutes)) {
      Model.Thing t = m.things.get(below(m.things.size()));
      int[] f = m.look(t, m.seers.get(seer), minutes / 1000);
      int[] l = m.look(t, m.seers.get(seer), minutes % 1000);
      if (f != null && l != null) {
        begin = Math.floorMod(f[0] + from(-m.a, m.a), 256) * 1000 + Math.max(0, Math.min(999, f[1] + from(-m.b, m.b)));
        end = Math.floorMod(l[0] + from(-m.a, m.a), 256) * 1000 + Math.max(0, Math.min(999, l[1] + from(-m.b, m.b)));
      }
    }
    same("tell " + seer + " " + minutes + " " + begin + " " + end + " " + lights, x.tell(seer, minutes, begin, end, lights),
        m.tell(seer, minutes, begin, end, lights));
  }

  private int someTelling() { return arg(0, Math.max(0, m.tellings.size() - 1)); }
  private int someThing() { return arg(0, Math.max(0, m.things.size() - 1)); }
  private int someSeer() { return arg(0, Math.max(0, m.seers.size() - 1)); }

  private void step() {
    switch (below(33)) {
      case 0: if (below(6) == 0) hill(); break;
      case 1: if (below(4) == 0) seer(); break;
      case 2: if (below(4) == 0) thing(); break;
      case 3: case 4: case 5: tell(); break;
      case 6: if (below(3) == 0) same("undo", x.undo(), m.undo()); break;
      case 7: {
        int a = below(3) == 0 ? arg(0, 32) : from(4, 20), b = below(3) == 0 ? arg(0, 200) : from(20, 120);
        same("off " + a + " " + b, bit(x.off(a, b)), bit(m.off(a, b)));
        break;
      }
      case 8: { int p = arg(0, 4095); same("ground " + p, x.ground(p), m.ground(p)); break; }
      case 9: case 10: {
        int t = someThing(), n = arg(0, 239), w = arg(0, 3);
        same("at " + t + " " + n + " " + w, x.at(t, n, w), m.at(t, n, w));
        break;
      }
      case 11: case 12: case 13: {
        int t = someThing(), s = someSeer(), n = arg(0, 239), w = arg(0, 3);
        same("seen " + t + " " + s + " " + n + " " + w, x.seen(t, s, n, w), m.seen(t, s, n, w));
        break;
      }
      case 14: { int t = someTelling(), w = arg(0, 8); same("telling " + t + " " + w, x.telling(t, w), m.telling(t, w)); break; }
      case 15: case 16: { int t = someTelling(), k = from(-2, 4); same("fits " + t + " " + k, x.fits(t, k), m.fits(t, k)); break; }
      case 17: { int k = from(-2, 6); same("left " + k, x.left(k), m.left(k)); break; }
      case 18: same("fewest", x.fewest(), m.fewest()); break;
      case 19: case 20: { int s = someTelling(), t = someTelling(); same("joined " + s + " " + t, x.joined(s, t), m.joined(s, t)); break; }
      case 21: crossing(); break;
      case 22: { int t = someThing(), s = someSeer(); same("out " + t + " " + s, x.out(t, s), m.out(t, s)); break; }
      case 23: if (below(4) == 0) outs(); break;
      case 24: {
        int t = someTelling(), g = someThing(), s = arg(1, 10000), f = below(2) == 0 ? arg(1, 10000) : from(1, 30);
        same("size " + t + " " + g + " " + s + " " + f, x.size(t, g, s, f), m.size(t, g, s, f));
        break;
      }
      case 25: { int l = arg(1, 9), w = arg(0, 1); same("hulls " + l + " " + w, x.hulls(l, w), m.hulls(l, w)); break; }
      case 26: { if (below(4) == 0) { int w = arg(0, 2); same("ask " + w, x.ask(w), m.ask(w)); } break; }
      case 27: write(sentence()); break;
      case 28: case 29: {
        int t = someTelling(), d = arg(0, 99), p = arg(0, 99), w = arg(0, 2);
        same("office " + t + " " + d + " " + p + " " + w, x.office(t, d, p, w), m.office(t, d, p, w));
        break;
      }
      case 30: {
        int l = arg(1, 9), h = arg(0, 1), d = arg(0, 99), p = arg(0, 99);
        same("grown " + l + " " + h + " " + d + " " + p, x.grown(l, h, d, p), m.grown(l, h, d, p));
        break;
      }
      case 31: {
        int h = arg(0, 1), d = below(2) == 0 ? 1 : arg(0, 99), p = arg(0, 99);
        int g = below(2) == 0 ? m.grown(from(1, 9), h, d, p) : arg(1, 99);
        same("before " + g + " " + h + " " + d + " " + p, x.before(g, h, d, p), m.before(g, h, d, p));
        break;
      }
      default: {
        int seed = arg(0, 1000000), n = below(3) == 0 ? arg(1, 20) : from(1, 3);
        int i = m.tellings.size();
        same("draw " + seed + " " + n, x.draw(seed, n), m.draw(seed, n));
        int w = arg(0, 8);
        for (; i < m.tellings.size(); i++) same("telling " + i + " " + w, x.telling(i, w), m.telling(i, w));
      }
    }
    int w = from(-1, 8);
    same("count " + w, x.count(w), m.count(w));
  }

  private void crossing() {
    int s = someTelling(), t = someTelling();
    if (below(2) == 0 && m.seers.size() > 1) {
      int minutes = from(0, 239) * 1001;
      s = m.tell(0, minutes, from(0, 255) * 1000 + from(0, 200), 0, 1);
      same("tell", x.tell(0, minutes, m.telling(s, 3) * 1000 + m.telling(s, 4), 0, 1), s);
      int begin = Math.floorMod(m.telling(s, 3) + 128 + from(-100, 100), 256) * 1000 + from(0, 400);
      t = m.tell(1, minutes, begin, 0, 1);
      same("tell", x.tell(1, minutes, begin, 0, 1), t);
    }
    for (int w = -1; w <= 6; w++) same("cross " + s + " " + t + " " + w, x.cross(s, t, w), m.cross(s, t, w));
  }

  private void outs() {
    int s = someSeer();
    int first = from(0, 239);
    int minutes = below(6) == 0 ? span() : first * 1000 + Math.min(241, first + from(0, 21));
    int z = below(2) == 0 ? arg(0, 255) : from(20, 120), fall = below(2) == 0 ? arg(0, 20) : from(1, 6);
    same("outs " + s + " " + minutes + " " + z + " " + fall, x.outs(s, minutes, z, fall), m.outs(s, minutes, z, fall));
  }

  // ---- rules ----

  private String pick(String... of) { return of[below(of.length)]; }

  private String blank() { return pick("", "", "", " ", "\n", "  "); }

  private String factor(int depth) {
    if (depth > 0 && below(3) == 0) return "(" + blank() + sum(depth - 1) + blank() + ")";
    if (below(2) == 0) return pick("lights", "hull", "days", "papers", "minute", "way", "slope");
    return pick(below(10) + "", below(300) + "", "9999", below(40) == 0 ? "10000" : "0", "007");
  }

  private String sum(int depth) {
    StringBuilder s = new StringBuilder(factor(depth));
    for (int n = below(3); n > 0; n--) s.append(blank()).append(pick("+", "-", "*")).append(blank()).append(factor(depth));
    return s.toString();
  }

  private String comparison() { return sum(2) + blank() + pick("<", "=", "<") + blank() + sum(1); }

  private String line() {
    if (below(6) == 0) return "grow " + sum(3) + blank() + ";";
    StringBuilder s = new StringBuilder("say " + pick("star", "flight", "flare", "lamp", "balloon", "burning", "none") + " if ");
    s.append(comparison());
    for (int n = below(3) - 1; n > 0; n--) s.append(" and ").append(comparison());
    return s.append(blank()).append(";").append(blank()).toString();
  }

  private String sentence() {
    if (below(12) == 0) {
      int n = from(6, 9);
      return "grow " + "(".repeat(n) + "lights" + ")".repeat(below(5) == 0 ? n - 1 : n) + ";";
    }
    StringBuilder s = new StringBuilder();
    if (below(8) == 0) {
      for (int n = from(11, 13); n > 0; n--) s.append("say star if way<").append(below(256)).append(";");
    } else {
      for (int n = from(1, 5); n > 0; n--) s.append(line());
    }
    if (below(3) == 0 && s.length() > 0) {
      int p = below(s.length());
      switch (below(4)) {
        case 0: s.setLength(p); break;
        case 1: s.deleteCharAt(p); break;
        case 2: s.insert(p, pick("#", "(", ")", ";", " 1 ", " and ", " if ", "A", "\t", "x", "" + (char) 228, "say ", "grow ")); break;
        default: s.setCharAt(p, s.charAt(below(s.length())));
      }
    }
    return s.length() > 400 ? s.substring(0, 400) : s.toString();
  }

  private void write(String text) {
    if (below(10) > 0) same("end 0", bit(x.end(0)), bit(m.end(0)));
    int before = m.text.length();
    for (int i = 0; i < text.length(); i += 20) {
      int[] n = new int[5];
      for (int j = 0; j < 20; j++) {
        int c = i + j < text.length() ? text.charAt(i + j) : below(256);
        n[j / 4] = (n[j / 4] << 8) | c;
      }
      same("feed", x.feed(n[0], n[1], n[2], n[3], n[4]), m.feed(n));
    }
    int length = below(20) == 0 ? arg(0, 400) : before + text.length();
    same("end " + length, bit(x.end(length)), bit(m.end(length)));
    same("fault of " + m.text, x.fault(), m.fault());
    if (below(4) > 0) same("rules of " + m.text, x.rules(), m.rules());
  }
}
