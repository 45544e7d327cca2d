/** The boundaries of promises 30 and 31, and of Term 4's VOICES. */
final class VoicesEdges {
  private static final int MIN = Integer.MIN_VALUE;
  private static final int MAX = Integer.MAX_VALUE;
  /** By KIND, then by VOICE. */
  private static final int[][][] BODIES = {
    {{10}, {11, 10}, {12, 11, 10}, {13}},
    {{20, 10}, {11, 20, 10}, {12, 11, 20, 10}, {21, 13, 11, 20, 10}},
    {{10}, {30, 11, 10}, {12, 30, 11, 10}, {13}},
    {{10}, {11, 10}, {40, 12, 11, 10}, {13}},
    {{50, 20, 10}, {11, 50, 20, 10}, {51, 12, 11, 50, 20, 10}, {21, 13, 11, 50, 20, 10}},
    {{10}, {60, 30, 11, 10}, {12, 60, 30, 11, 10}, {13}},
    {{70}, {71, 11, 70}, {12, 71, 11, 70}, {13}},
  };

  private VoicesEdges() {}

  static void all() {
    refused();
    parted();
    anyNumber();
    wraps();
    quotients();
    asTold();
    bodyRefused();
    body();
    latest();
  }

  private static void refused() {
    for (int voice = 0; voice < 4; voice++) {
      int asked = voice;
      Edge.beyond(30, "one of three, voice " + voice + ", one", 0, 2, Edge::some, (x, v) -> x.voice(v, asked, 5));
      Edge.refused(30, "nobody, voice " + voice, Edge::fresh, Check.BEYOND, x -> x.voice(0, asked, 0));
    }
    Edge.beyond(30, "one of eight", 0, 7, Edge::full, (x, v) -> x.voice(v, 3, MIN));
    Edge.beyond(30, "voice", 0, 3, Edge::some, (x, v) -> x.voice(1, v, 5));
    Edge.beyond(30, "voice of one who would part", 0, 3, Edge::full, (x, v) -> x.voice(7, v, 5));
    Edge.refused(30, "one and voice are beyond", Edge::full, Check.BEYOND, x -> x.voice(8, 4, 5));
  }

  private static ApronStrings kindOf(int km) {
    ApronStrings x = Edge.some();
    x.become(2, km);
    return x;
  }

  private static void traced(ApronStrings x, int... bodies) {
    Check.due("count(8)", x.count(8), bodies.length);
    for (int i = 0; i < bodies.length; i++) Check.due("body " + i, x.body(i), bodies[i]);
    Check.due("one more", x.body(bodies.length), Check.NONE);
  }

  private static void parted() {
    for (int kind = 0; kind < 7; kind++) {
      int km = 10 * kind + 2;
      int lets = kind == 1 ? -2 : kind == 4 ? -6 : 0;
      int[] begun = kind == 1 || kind == 4 ? new int[] {21, 13} : new int[] {13};
      for (int any : new int[] {0, 1, -1, MIN, MAX}) {
        Edge.of(30, "PARTED, by 0 of KIND " + kind + ", x " + any, () -> {
          ApronStrings x = kindOf(km);
          ApronStrings y = kindOf(km);
          Check.due("voice", x.voice(2, 3, any), Check.PARTED);
          Edge.toldOnce(x, y, Check.PARTED);
          Edge.alikeButTheTrace(x, y);
        });
      }
      Edge.of(31, "THE TRACE behind PARTED of KIND " + kind, () -> {
        ApronStrings x = kindOf(km);
        x.voice(2, 3, 5);
        traced(x, begun);
      });
      Edge.of(30, "m one more and one less than k, of KIND " + kind, () -> {
        ApronStrings x = kindOf(km + 1);
        Check.due("m 3", x.voice(2, 3, 7), 7 + lets);
        x.become(2, km - 1);
        Check.due("m 1", x.voice(2, 3, 7), -7 + lets);
        Check.due("told(6)", x.told(6), 0);
      });
      Edge.of(30, "the other VOICES do not part, of KIND " + kind, () -> {
        ApronStrings x = kindOf(km);
        for (int voice = 0; voice < 3; voice++) x.voice(2, voice, 5);
        Check.due("told(6)", x.told(6), 0);
      });
    }
    Edge.of(30, "PARTED of the first and of the last of eight", () -> {
      ApronStrings x = Edge.full();
      Check.due("k 7, m 7", x.voice(7, 3, 5), Check.PARTED);
      x.become(0, 30);
      Check.due("k 0, m 0", x.voice(0, 3, 5), Check.PARTED);
      Check.due("told(6)", x.told(6), 2);
    });
  }

  private static int ties(int kind, int k, int x) {
    return kind == 6 ? 9 : kind == 4 ? (x + k - 4) * 3 : kind == 1 ? x + k - 4 : x + k;
  }

  private static int lets(int kind, int k, int m, int x) {
    switch (kind) {
      case 2: return 0 - (x + k) * 2;
      case 5: return 0 - (x + 1 + k) * 2;
      case 6: return 18 + m;
      default: return ties(kind, k, x) * 2;
    }
  }

  private static int pulls(int kind, int k, int m, int x) {
    int plain = lets(kind, k, m, kind == 3 ? x / 2 : x) - m;
    return kind == 4 ? plain ^ k : plain;
  }

  private static int parts(int kind, int k, int m, int x) {
    int plain = m - k == -1 ? 0 - x : x / (m - k);
    return kind == 1 || kind == 4 ? plain + lets(kind, k, m, 1) : plain;
  }

  /** By what the BODIES come to together, put together by hand. */
  private static void anyNumber() {
    int[] any = {0, 1, -1, 2, -2, 3, -3, 17, -17, MIN, MIN + 1, MIN / 2, MIN / 2 - 1, MAX, MAX - 1, MAX / 2, MAX / 2 + 1,
        Check.BEYOND, Check.PARTED};
    for (int kind = 0; kind < 7; kind++) {
      int asked = kind;
      Edge.of(30, "any number, KIND " + kind, () -> {
        for (int k = 0; k < 8; k++) {
          int m = (k * 5 + 3) % 10;
          ApronStrings y = new ApronStrings();
          for (int i = 0; i < 8; i++) y.one(10 * asked + m, -1, 0, 0);
          for (int v : any) {
            String of = "(" + k + ", " + v + ") with m " + m;
            Check.due("ties" + of, y.voice(k, 0, v), ties(asked, k, v));
            Check.due("lets" + of, y.voice(k, 1, v), lets(asked, k, m, v));
            Check.due("pulls" + of, y.voice(k, 2, v), pulls(asked, k, m, v));
            if (m != k) Check.due("parts" + of, y.voice(k, 3, v), parts(asked, k, m, v));
          }
          for (int i = 1; i <= 6; i++) Check.due("told " + i, y.told(i), 0);
        }
      });
    }
    Edge.of(30, "an answer like an ERROR is none", () -> {
      ApronStrings x = new ApronStrings();
      x.one(1, -1, 0, 0);
      for (int k = 1; k <= 6; k++) {
        Check.due("ties", x.voice(0, 0, Check.LOW - k), Check.LOW - k);
        Check.due("parts", x.voice(0, 3, Check.LOW - k), Check.LOW - k);
        Check.due("told " + k, x.told(k), 0);
      }
      traced(x, 13);
    });
  }

  private static void said(int km, int k, int voice, int v, int want) {
    ApronStrings x = new ApronStrings();
    for (int i = 0; i <= k; i++) x.one(km, -1, 0, 0);
    Check.due("voice(" + k + ", " + voice + ", " + v + ") of km " + km, x.voice(k, voice, v), want);
  }

  private static void wraps() {
    Edge.of(30, "ints that wrap", () -> {
      said(0, 1, 0, MAX, MIN);
      said(0, 7, 0, MAX, MIN + 6);
      said(0, 0, 1, 1 << 30, MIN);
      said(0, 0, 1, MAX, -2);
      said(9, 0, 2, 1 << 30, MAX - 8);
      said(10, 0, 0, MIN, MAX - 3);
      said(11, 0, 3, MIN, MAX - 5);
      said(20, 0, 1, 1 << 30, MIN);
      said(20, 0, 1, MIN, 0);
      said(40, 0, 0, MAX, MAX - 14);
      said(50, 0, 1, MAX, 0);
      said(50, 0, 1, MAX - 1, 2);
    });
    Edge.of(30, "the least by -1", () -> {
      said(0, 1, 3, MIN, MIN);
      said(66, 7, 3, MIN, MIN);
      said(0, 1, 3, MAX, -MAX);
      said(0, 1, 3, MIN + 1, MAX);
    });
  }

  private static void quotients() {
    Edge.of(30, "quotients are cut toward 0", () -> {
      int[] any = {8, -8, 9, -9, 17, -17, 18, 0, MIN, MAX};
      int[] want = {0, 0, 1, -1, 1, -1, 2, 0, -238609294, 238609294};
      for (int i = 0; i < any.length; i++) {
        said(9, 0, 3, any[i], want[i]);
        said(2, 0, 3, any[i], any[i] / 2);
      }
      said(0, 7, 3, 6, 0);
      said(0, 7, 3, 7, -1);
      said(0, 7, 3, -13, 1);
      said(30, 0, 2, 1, 0);
      said(30, 0, 2, -1, 0);
      said(30, 0, 2, 3, 2);
      said(30, 0, 2, -3, -2);
      said(30, 0, 2, MIN, MIN);
    });
  }

  private static void asTold() {
    Edge.of(30, "m as told, k the number", () -> {
      ApronStrings x = Edge.full();
      for (int m = 0; m < 10; m++) {
        x.become(7, m);
        Check.due("m " + m, x.voice(7, 2, 0), 14 - m);
        x.become(7, 60 + m);
        Check.due("m " + m, x.voice(7, 1, 0), 18 + m);
      }
    });
    Edge.of(30, "whatever STRING it has, on any DAY", () -> {
      ApronStrings x = Edge.full();
      int was = x.voice(6, 2, 5);
      x.cut(6);
      x.day(0);
      Check.text(x, 0, "3");
      Check.due("as ahead", x.voice(6, 2, 5), was);
    });
    Edge.of(30, "it changes nothing but THE TRACE", () -> {
      ApronStrings x = Edge.full();
      for (int one = 0; one < 7; one++) {
        for (int voice = 0; voice < 3; voice++) x.voice(one, voice, MAX);
      }
      Edge.toldOnce(x, Edge.full(), 0);
      Edge.alikeButTheTrace(x, Edge.full());
    });
  }

  private static void bodyRefused() {
    for (int i : new int[] {MIN, -1, 0, 1, 29, 30, MAX}) {
      Edge.refused(31, "no voice yet, i " + i, Edge::fresh, Check.NONE, x -> x.body(i));
    }
    for (int i : new int[] {MIN, -30, -1, 6, 7, 29, 30, 31, MAX}) {
      Edge.refused(31, "6 BODIES, i " + i, Edge::full, Check.NONE, x -> x.body(i));
    }
    for (int i : new int[] {MIN, -1, 1, 2, MAX}) {
      Edge.refused(31, "1 BODY, i " + i, VoicesEdges::partedOnce, Check.NONE, x -> x.body(i));
    }
  }

  private static ApronStrings partedOnce() {
    ApronStrings x = Edge.full();
    x.voice(7, 3, 5);
    return x;
  }

  private static void body() {
    for (int kind = 0; kind < 7; kind++) {
      for (int voice = 0; voice < 4; voice++) {
        int k = kind;
        int v = voice;
        Edge.of(31, "as they began, KIND " + kind + ", voice " + voice, () -> {
          ApronStrings x = kindOf(10 * k + 9);
          x.voice(2, v, 5);
          traced(x, BODIES[k][v]);
          x.voice(2, v, MIN);
          traced(x, BODIES[k][v]);
        });
      }
    }
  }

  private static void latest() {
    Edge.of(31, "one behind 6, and 6 behind one", () -> {
      ApronStrings x = Edge.full();
      traced(x, 51, 12, 11, 50, 20, 10);
      x.voice(7, 0, 1);
      traced(x, 10);
      x.voice(4, 3, 1);
      traced(x, 21, 13, 11, 50, 20, 10);
      x.voice(7, 3, 1);
      traced(x, 13);
    });
    Edge.of(30, "a voice() behind one that parted", () -> {
      ApronStrings x = partedOnce();
      Check.due("voice", x.voice(0, 0, 5), 5);
      traced(x, 10);
      Check.due("told(6)", x.told(6), 1);
      Check.due("voice", x.voice(7, 3, 5), Check.PARTED);
      Check.due("voice", x.voice(7, 2, 5), 17);
      traced(x, 12, 11, 10);
      Check.due("told(6)", x.told(6), 2);
    });
    Edge.of(31, "a voice() that answers BEYOND leaves the one ahead", () -> {
      ApronStrings x = partedOnce();
      Check.due("voice", x.voice(8, 0, 1), Check.BEYOND);
      traced(x, 13);
      Check.due("voice", x.voice(4, 4, 1), Check.BEYOND);
      traced(x, 13);
    });
    Edge.of(31, "what it may be asked beside: days, an IMAGE, a KIND", () -> {
      ApronStrings x = Edge.full();
      x.day(0);
      x.become(4, 0);
      x.days(60);
      x.image();
      x.restore();
      traced(x, 51, 12, 11, 50, 20, 10);
    });
  }
}
