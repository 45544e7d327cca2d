import java.util.LinkedHashMap;
import java.util.Map;

/** What the tests of boundaries share: boundaries with names, objects to ask, and calls that answer an ERROR. */
final class Edge {
  static final int LEAST = Integer.MIN_VALUE;
  static final int MOST = Integer.MAX_VALUE;

  private static final int[] NAMED = new int[43];

  private Edge() {}

  interface Body {
    void run();
  }

  interface Maker {
    ApronStrings made();
  }

  interface Call {
    int on(ApronStrings x);
  }

  /** A boundary that a sentence of a promise names, or of the Terms that its words stand for. */
  static void of(int promise, String boundary, Body body) {
    NAMED[promise]++;
    Check.about(promise + ", " + boundary);
    try {
      body.run();
    } catch (RuntimeException thrown) {
      Check.due("what was thrown: " + thrown, 1, 0);
    }
  }

  static int named(int promise) {
    return NAMED[promise];
  }

  /** The call answers that ERROR, which is told once, and changes nothing else. */
  static void refused(int promise, String boundary, Maker maker, int error, Call asked) {
    of(promise, boundary, () -> {
      ApronStrings x = maker.made();
      ApronStrings y = maker.made();
      Check.due("the call", asked.on(x), error);
      toldOnce(x, y, error);
      alike(x, y);
    });
  }

  /** Likewise with every number that lies just beyond either side, or as far beyond as can be. */
  static void beyond(int promise, String what, int least, int greatest, Maker maker, Asked asked) {
    for (int v : new int[] {LEAST, least - 1, greatest + 1, MOST}) {
      refused(promise, what + " " + v, maker, Check.BEYOND, x -> asked.on(x, v));
    }
  }

  interface Asked {
    int on(ApronStrings x, int v);
  }

  static void toldOnce(ApronStrings x, ApronStrings y, int error) {
    for (int k = 1; k <= 6; k++) {
      Check.due("told(" + k + ")", x.told(k), y.told(k) + (k == Check.LOW - error ? 1 : 0));
    }
  }

  /** Both tell the same of all but ERRORS. It uses them up. */
  static void alike(ApronStrings x, ApronStrings y) {
    same(all(x), all(y));
  }

  /** Both tell the same of all but ERRORS and THE TRACE. It uses them up. */
  static void alikeButTheTrace(ApronStrings x, ApronStrings y) {
    Map<String, Integer> got = all(x);
    Map<String, Integer> want = all(y);
    got.keySet().removeIf(what -> what.contains("body") || what.contains("count 8"));
    want.keySet().removeIf(what -> what.contains("body") || what.contains("count 8"));
    same(got, want);
  }

  private static void same(Map<String, Integer> got, Map<String, Integer> want) {
    Check.due("how much there is to tell", got.size(), want.size());
    for (String what : want.keySet()) Check.due(what, got.getOrDefault(what, LEAST), want.get(what));
  }

  private static Map<String, Integer> all(ApronStrings x) {
    Map<String, Integer> all = new LinkedHashMap<>();
    state(x, all, "then ");
    usedUp(x, all, "then ");
    for (int sheet = 0; sheet < 4; sheet++) all.put("judge " + sheet, x.judge(sheet));
    for (int sheet = 0; sheet < 3; sheet++) numbers(x, all, sheet);
    all.put("restore()", x.restore());
    state(x, all, "restored ");
    usedUp(x, all, "restored ");
    all.put("image()", x.image());
    return all;
  }

  private static void state(ApronStrings x, Map<String, Integer> all, String when) {
    for (int what = 0; what < 10; what++) all.put(when + "count " + what, x.count(what));
    for (int one = 0; one < x.count(0); one++) {
      for (int what = 0; what < 9; what++) all.put(when + "oneIs " + one + ", " + what, x.oneIs(one, what));
    }
    for (int place = 0; place < 6; place++) all.put(when + "listed " + place, x.listed(place));
    for (int i = 0; i < x.count(8); i++) all.put(when + "body " + i, x.body(i));
    for (int use = 0; use < 2; use++) laws(x, all, when, use);
  }

  private static void laws(ApronStrings x, Map<String, Integer> all, String when, int use) {
    int[][] names = {{3, 5, -2}, {0, 1, 7}, {9, 2, 4}, {-1, -1, -1}};
    for (int[] n : names) all.put(when + "law " + use + ", " + n[0], x.law(use, n[0], n[1], n[2]));
  }

  /** What waits, and THE TAPE. */
  private static void usedUp(ApronStrings x, Map<String, Integer> all, String when) {
    all.put(when + "check()", x.check());
    all.put(when + "text(1)", x.text(1));
    laws(x, all, when + "by THE TAPE ", 1);
  }

  /** The numbers of a SHEET, by what they make the STRING of 1 have to SPARE; takes the SHEET 3. */
  private static void numbers(ApronStrings x, Map<String, Integer> all, int sheet) {
    int many = 0;
    while (many < 24 && x.move(sheet, 0, sheet, 0, many + 1) == many + 1) many++;
    int bits = 8;
    while (bits < 64 && (x.sheet(3, bits, 2) != 1 || x.move(sheet, 0, 3, 0, 0) != 0)) bits *= 2;
    all.put("numbers of " + sheet, many);
    all.put("bits of " + sheet, bits);
    for (int i = 0; i < many; i++) {
      all.put("put " + sheet, x.move(sheet, i, 3, 1, 1));
      all.put("taken of " + sheet + ", " + i, x.reels(3));
      all.put("number " + sheet + ", " + i, x.oneIs(1, 5));
    }
  }

  static ApronStrings fresh() {
    return new ApronStrings();
  }

  /** Three people in a row of STRINGS, and of all else a little; room for more. */
  static ApronStrings some() {
    ApronStrings x = new ApronStrings();
    x.one(4, -1, 30, 0);
    x.image();
    x.one(13, 0, 33, 2);
    x.one(25, 1, 28, 1);
    x.list(2, 1, 0);
    x.day(5);
    x.seed(-7);
    Check.text(x, 0, "y+1");
    Check.feed(x, "s+d");
    x.tell(2);
    x.tell(3);
    x.sheet(0, 8, 3);
    x.put(0, 0, 30);
    x.put(0, 1, 7);
    x.sheet(1, 16, 3);
    x.voice(1, 1, 3);
    return x;
  }

  /** Eight people, THE TAPE of 60 bytes, 24 numbers that wait, a SHEET of 24; DAY 9999; 3 is missing. */
  static ApronStrings full() {
    ApronStrings x = some();
    x.image();
    x.one(33, 2, 25, 0);
    x.one(47, 1, 40, 3);
    x.one(58, 2, 20, 0);
    x.one(61, 5, 18, 4);
    x.one(7, -1, 63, 0);
    x.text(1);
    Check.feed(x, "(s+1)*(s+2)*(s+3)*(s+4)*(s+5)*(s+6)*(s+7)*(s+8)*(s+9)*(s+10)");
    x.day(9999);
    x.check();
    for (int i = 0; i < 24; i++) x.tell(i < 8 ? x.oneIs(i, 8) : 1);
    x.sheet(2, 32, 24);
    for (int i = 0; i < 24; i += 5) x.put(2, i, 90 + 2 * i);
    x.voice(4, 2, 9);
    return x;
  }
}
