import java.util.Random;

/** Random runs of 512 calls, each answer set against the one that Plain gives. */
public final class RandomRunsTest {
  private static final int RUNS = Integer.getInteger("runs", 2500);

  private final Random random;
  private final ApronStrings x = new ApronStrings();
  private final Plain y = new Plain();
  private final int style;

  private RandomRunsTest(long seed) {
    random = new Random(seed);
    style = random.nextInt(4);
  }

  public static void main(String[] args) {
    long first = Long.getLong("first", 1);
    for (long seed = first; seed < first + RUNS; seed++) {
      if (!new RandomRunsTest(seed).runs(seed)) break;
    }
    Check.end("RandomRunsTest");
  }

  private boolean runs(long seed) {
    Check.about("seed " + seed);
    StringBuilder told = new StringBuilder();
    for (int i = 0; i < 512; i++) {
      int[] a = new int[7];
      int which = i < 12 && style > 0 ? opening(a) : pick(a);
      String call = calls(which, a);
      long got = gotten, want = wanted;
      Check.due("call " + i + " " + call, got, want);
      told.append(call).append(" -> ").append(want).append('\n');
      if (got != want) {
        System.out.println(told);
        return false;
      }
    }
    return true;
  }

  private long gotten, wanted;

  private int up(int n) {
    return random.nextInt(n);
  }

  private boolean rarely(int n) {
    return random.nextInt(n) == 0;
  }

  /** Mostly from..to, at times an edge or just beyond it, seldom any number. */
  private int about(int from, int to) {
    if (rarely(60)) return from - 1;
    if (rarely(60)) return to + 1;
    if (rarely(200)) return random.nextInt();
    if (rarely(400)) return random.nextBoolean() ? Integer.MIN_VALUE : Integer.MAX_VALUE;
    if (rarely(20)) return random.nextBoolean() ? from : to;
    return to < from ? from : from + up(to - from + 1);
  }

  private int person() {
    return about(0, Math.max(0, x.count(0) - 1));
  }

  private int opening(int[] a) {
    if (up(3) > 0) {
      person(a);
      a[1] = x.count(0) == 0 ? -1 : up(8) == 0 ? -1 : up(x.count(0));
      a[2] = style == 1 ? 28 + up(8) : up(64);
      a[3] = style == 2 ? up(5) : up(30);
      return 0;
    }
    return pick(a);
  }

  private void person(int[] a) {
    a[0] = about(0, 69);
    a[1] = about(-1, x.count(0) - 1);
    a[2] = about(0, 63);
    a[3] = rarely(2) ? up(6) : about(0, 99);
  }

  private String ownText(int depth) {
    String[] signs = {"|", "&", "<", "=", ">", "+", "-", "*", "/", "%"};
    if (depth <= 0 || rarely(4)) {
      return rarely(3) ? "" + up(rarely(3) ? 10000 : 10) : "" + "ysdsod".charAt(up(6));
    }
    switch (up(6)) {
      case 0: return "!" + ownText(depth - 1);
      case 1: return "(" + ownText(depth - 1) + ")";
      default: return ownText(depth - 1) + signs[up(10)] + ownText(depth - 1);
    }
  }

  private char value() {
    return "0123456789ysdsod".charAt(up(16));
  }

  /** As many parts as there is room for. */
  private String longText() {
    StringBuilder s = new StringBuilder().append(value());
    for (int i = up(30); i > 0; i--) s.append("+-*/%|&+-*/%|&+-*/%|&<=>".charAt(up(24))).append(value());
    return s.toString();
  }

  /** Each sign joins more closely than the one ahead, so that most waits; then ( and the like again. */
  private String deepText() {
    String[] signs = {"|", "&", "<=>", "+-", "*/%"};
    StringBuilder s = new StringBuilder();
    int open = 0;
    for (int level = 1 + up(5); level > 0; level--) {
      for (String of : signs) {
        if (!rarely(5)) s.append(value()).append(of.charAt(up(of.length())));
      }
      if (rarely(9)) s.append('!');
      if (level == 1) break;
      s.append('(');
      open++;
    }
    s.append(value());
    for (int i = 0; i < open; i++) s.append(rarely(4) ? "+1)" : ")");
    return s.toString();
  }

  private String someText() {
    StringBuilder s = new StringBuilder(rarely(6) ? longText() : rarely(6) ? deepText() : ownText(1 + up(5)));
    if (rarely(4)) s.insert(up(s.length() + 1), "()!|&<=>+-*/%0123456789ysdo \u00e9\u0000".charAt(up(29)));
    if (rarely(6)) s.deleteCharAt(up(s.length()));
    if (s.length() > 60) s.setLength(60);
    return s.toString();
  }

  private void wholeText() {
    String s = someText();
    for (int from = 0; from < s.length(); from += 8) {
      int n = Math.min(8, s.length() - from);
      long word = 0;
      for (int i = n - 1; i >= 0; i--) word = word << 8 | s.charAt(from + i);
      gotten = x.feed(word, n);
      wanted = y.feed(word, n);
      Check.due("feed of " + s, gotten, wanted);
    }
  }

  /** Dear calls come seldom, for Plain is slow. */
  private int pick(int[] a) {
    int which = up(42);
    if (which >= 25 && which <= 27 && !rarely(6)) which = up(3) == 0 ? 13 : 1;
    for (int i = 0; i < a.length; i++) a[i] = about(0, 8);
    if (which == 0) person(a);
    return which;
  }

  private void both(long got, long want) {
    gotten = got;
    wanted = want;
  }

  private String calls(int which, int[] a) {
    int n, p, q, v;
    switch (which) {
      case 0: both(x.one(a[0], a[1], a[2], a[3]), y.one(a[0], a[1], a[2], a[3])); return say("one", a, 4);
      case 1: p = person(); both(x.oneIs(p, a[1]), y.oneIs(p, a[1])); return say("oneIs", p, a[1]);
      case 2: p = person(); v = about(0, 69); both(x.become(p, v), y.become(p, v)); return say("become", p, v);
      case 3: p = person(); v = about(0, 6); both(x.as(p, v), y.as(p, v)); return say("as", p, v);
      case 4:
        p = person(); v = rarely(2) ? up(5) : about(0, 99);
        both(x.reel(p, v), y.reel(p, v)); return say("reel", p, v);
      case 5:
        if (!rarely(8)) return calls(6, a);
        p = person(); both(x.cut(p), y.cut(p)); return say("cut", p);
      case 6:
        p = about(0, 5); q = about(0, 7); v = about(0, 1);
        both(x.list(p, q, v), y.list(p, q, v)); return say("list", p, q, v);
      case 7: p = about(0, 5); both(x.listed(p), y.listed(p)); return say("listed", p);
      case 8:
        if (rarely(2)) wholeText();
        long word = random.nextLong(); n = about(1, 8);
        if (rarely(10)) both(x.feed(word, n), y.feed(word, n));
        return say("feed " + word, n);
      case 9:
        if (!rarely(8)) wholeText();
        p = about(0, 1); both(x.text(p), y.text(p)); return say("text", p);
      case 10: if (!rarely(4)) return calls(12, a); p = about(0, 1); both(x.untell(p), y.untell(p)); return say("untell", p);
      case 11: case 12:
        p = about(0, 1); n = rarely(3) ? random.nextInt() : about(-9, 90);
        both(x.law(p, n, a[1], a[2]), y.law(p, n, a[1], a[2])); return say("law", p, n, a[1], a[2]);
      case 13: n = rarely(2) ? 1 : about(1, 12); both(x.days(n), y.days(n)); return say("days", n);
      case 14: n = rarely(2) ? 1 : about(1, 6); both(x.loose(n), y.loose(n)); return say("loose", n);
      case 15: v = rarely(9) ? 9990 + up(10) : about(0, 9999); both(x.day(v), y.day(v)); return say("day", v);
      case 16: v = random.nextInt(); both(x.seed(v), y.seed(v)); return say("seed", v);
      case 17: p = person(); both(x.line(p), y.line(p)); return say("line", p);
      case 18: p = person(); q = person(); both(x.between(p, q), y.between(p, q)); return say("between", p, q);
      case 19: v = about(0, 63); both(x.over(v), y.over(v)); return say("over", v);
      case 20: v = about(0, 1); both(x.knot(v), y.knot(v)); return say("knot", v);
      case 21: both(x.crossings(), y.crossings()); return say("crossings");
      case 22: p = person(); n = about(0, 60); both(x.then(p, n), y.then(p, n)); return say("then", p, n);
      case 23: n = about(0, 60); both(x.strings(n), y.strings(n)); return say("strings", n);
      case 24:
        p = person(); v = about(0, 63);
        if (rarely(2)) { n = up(61); v = (int) alike("then", x.then(p, n), y.then(p, n)); }
        both(x.soonest(p, v), y.soonest(p, v)); return say("soonest", p, v);
      case 25: p = person(); n = about(0, 40); both(x.spareFor(p, n), y.spareFor(p, n)); return say("spareFor", p, n);
      case 26: p = person(); n = about(0, 40); both(x.freeFor(p, n), y.freeFor(p, n)); return say("freeFor", p, n);
      case 27:
        p = person(); n = about(0, 40); v = about(0, 1);
        both(x.odds(p, n, v), y.odds(p, n, v)); return say("odds", p, n, v);
      default: return more(which, a);
    }
  }

  private String more(int which, int[] a) {
    int n, p, q, v;
    switch (which) {
      case 28:
        p = about(0, 3); q = person(); v = about(0, 1);
        if (rarely(2)) wentSo(p, q, a);
        both(x.fits(p, q, v), y.fits(p, q, v)); return say("fits", p, q, v);
      case 29: case 30:
        p = person(); q = about(0, 3); v = rarely(3) ? random.nextInt() : about(-9, 30);
        both(x.voice(p, q, v), y.voice(p, q, v)); return say("voice", p, q, v);
      case 31: p = about(0, 6); both(x.body(p), y.body(p)); return say("body", p);
      case 32:
        p = about(0, 3); q = rarely(9) ? a[0] : 8 * up(3); if (q == 16 && rarely(2)) q = 32; n = about(0, 24);
        both(x.sheet(p, q, n), y.sheet(p, q, n)); return say("sheet", p, q, n);
      case 33:
        p = about(0, 3); q = about(0, 9); v = rarely(5) ? random.nextInt() : about(0, 99);
        both(x.put(p, q, v), y.put(p, q, v)); return say("put", p, q, v);
      case 34:
        p = about(0, 3); v = about(0, 3);
        both(x.move(p, a[0], v, a[1], a[2]), y.move(p, a[0], v, a[1], a[2]));
        return say("move", p, a[0], v, a[1], a[2]);
      case 35: p = about(0, 3); both(x.reels(p), y.reels(p)); return say("reels", p);
      case 36:
        p = about(0, 3);
        if (rarely(2)) stand(p);
        both(x.judge(p), y.judge(p)); return say("judge", p);
      case 37: both(x.image(), y.image()); return say("image");
      case 38: if (!rarely(3)) return calls(40, a); both(x.restore(), y.restore()); return say("restore");
      case 39: v = rarely(3) ? about(0, 9) : going(); both(x.tell(v), y.tell(v)); return say("tell", v);
      case 40:
        if (!rarely(4)) { v = about(0, 9); both(x.count(v), y.count(v)); return say("count", v); }
        both(x.check(), y.check()); return say("check");
      default:
        if (rarely(2)) { v = about(1, 6); both(x.told(v), y.told(v)); return say("told", v); }
        v = about(0, 9); both(x.count(v), y.count(v)); return say("count", v);
    }
  }

  /** How far the one goes whom the next number that waits is about. */
  private int going() {
    int one = x.count(7);
    return one < x.count(0) ? (int) alike("oneIs", x.oneIs(one, 8), y.oneIs(one, 8)) : up(10);
  }

  private long alike(String call, long got, long want) {
    Check.due(call, got, want);
    return got;
  }

  /** A SHEET by which one went as one of some KIND. */
  private void wentSo(int sheet, int one, int[] a) {
    int n = up(25);
    int was = y.oneIs(one, 0);
    alike("oneIs", x.oneIs(one, 0), was);
    int m = y.oneIs(one, 1);
    alike("oneIs", x.oneIs(one, 1), m);
    if (was < 0) return;
    alike("sheet", x.sheet(sheet, 16, n), y.sheet(sheet, 16, n));
    int km = 10 * up(7) + m;
    alike("become", x.become(one, km), y.become(one, km));
    for (int i = 0; i < n; i++) {
      int cell = (int) alike("then", x.then(one, i), y.then(one, i));
      alike("put", x.put(sheet, i, cell), y.put(sheet, i, cell));
    }
    alike("become", x.become(one, 10 * was + m), y.become(one, 10 * was + m));
  }

  private void stand(int sheet) {
    for (int i = 0; i < x.count(0) && !rarely(5); i++) {
      int cell = (int) alike("oneIs", x.oneIs(i, 3), y.oneIs(i, 3));
      alike("put", x.put(sheet, i, cell), y.put(sheet, i, cell));
    }
  }

  private static String say(String name, int... a) {
    return say(name, a, a.length);
  }

  private static String say(String name, int[] a, int n) {
    StringBuilder s = new StringBuilder(name).append('(');
    for (int i = 0; i < n; i++) s.append(i == 0 ? "" : ", ").append(a[i]);
    return s.append(')').toString();
  }
}
