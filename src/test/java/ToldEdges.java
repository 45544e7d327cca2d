/** The boundaries of promises 39 to 42. */
final class ToldEdges {
  private static final int MIN = Integer.MIN_VALUE;
  private static final int MAX = Integer.MAX_VALUE;

  private ToldEdges() {}

  static void all() {
    tell();
    check();
    checkPlaces();
    countRefused();
    counts();
    told();
    toldCounts();
  }

  private static ApronStrings waiting(int many) {
    ApronStrings x = Edge.some();
    x.check();
    for (int i = 0; i < many; i++) x.tell(2);
    return x;
  }

  private static void tell() {
    for (int v : new int[] {0, 1, -1, MIN, MAX, Check.FULL}) {
      Edge.refused(39, "24 wait, v " + v, Edge::full, Check.FULL, x -> x.tell(v));
      Edge.refused(39, "24 wait, of three, v " + v, () -> waiting(24), Check.FULL, x -> x.tell(v));
      Edge.of(39, "none wait, 23 wait, v " + v, () -> {
        ApronStrings x = waiting(0);
        Check.due("the first", x.tell(v), 1);
        x = waiting(23);
        Check.due("the 24th", x.tell(v), 24);
        Check.due("count(7)", x.count(7), 24);
        Check.due("told(4)", x.told(4), 0);
      });
    }
    Edge.of(39, "1 to 24, of nobody, and from 1 on behind check()", () -> {
      ApronStrings x = new ApronStrings();
      for (int turn = 0; turn < 3; turn++) {
        for (int i = 1; i <= 24; i++) {
          Check.due("tell", x.tell(i), i);
          Check.due("count(7)", x.count(7), i);
        }
        Check.due("a 25th", x.tell(0), Check.FULL);
        Check.due("check()", x.check(), 1);
        Check.due("count(7)", x.count(7), 0);
      }
      Check.due("told(4)", x.told(4), 3);
    });
  }

  private static void checked(ApronStrings x, int want, int... numbers) {
    for (int v : numbers) x.tell(v);
    Check.due("check()", x.check(), want);
    Check.due("none wait then", x.count(7), 0);
    Check.due("again", x.check(), 0);
    for (int k = 1; k <= 6; k++) Check.due("told " + k, x.told(k), 0);
  }

  private static void check() {
    Edge.of(40, "none wait: nobody, three, eight PEOPLE", () -> {
      checked(new ApronStrings(), 0);
      checked(waiting(0), 0);
      ApronStrings x = Edge.full();
      x.check();
      Check.due("check()", x.check(), 0);
    });
    Edge.of(40, "nobody", () -> {
      checked(new ApronStrings(), 1, 0);
      checked(new ApronStrings(), 1, 2, 2);
      checked(new ApronStrings(), 1, MIN);
    });
    Edge.of(40, "24 wait", () -> {
      Check.due("eight are right", Edge.full().check(), 9);
      Check.due("of three", waiting(24).check(), 2);
      ApronStrings x = new ApronStrings();
      for (int i = 0; i < 24; i++) x.tell(0);
      Check.due("of nobody", x.check(), 1);
    });
    Edge.of(40, "a number just less, just more, far off", () -> {
      int[] any = {1, 3, -2, 0, MIN, MAX, 2 + 256, 2 - 256};
      for (int v : any) {
        checked(waiting(0), 1, v);
        checked(waiting(0), 1, v, 3, 1);
      }
      checked(waiting(0), 0, 2);
    });
    Edge.of(40, "GOES 0 and 9, as held", () -> {
      ApronStrings x = new ApronStrings();
      x.one(30, -1, 0, 0);
      x.one(49, -1, 0, 0);
      checked(x, 0, 0, 9);
      checked(x, 1, -1, 9);
      checked(x, 2, 0, 11);
      checked(x, 2, 0, 10);
      Check.text(x, 1, "0-1");
      checked(x, 0, 0, 0);
      checked(x, 1, -1, 0);
      Check.text(x, 1, "10");
      checked(x, 0, 9, 9);
      checked(x, 2, 9, 10);
    });
  }

  private static void checkPlaces() {
    Edge.of(40, "wrong at each place from 0 to 7, and nobody behind them", () -> {
      ApronStrings x = new ApronStrings();
      for (int i = 0; i < 8; i++) x.one(0, -1, 0, 0);
      for (int wrong = 0; wrong < 8; wrong++) {
        int[] numbers = new int[8];
        for (int i = 0; i < 8; i++) numbers[i] = i == wrong || i == 7 ? 3 : 2;
        checked(x, wrong + 1, numbers);
      }
      checked(x, 0, 2, 2, 2, 2, 2, 2, 2, 2);
      checked(x, 9, 2, 2, 2, 2, 2, 2, 2, 2, 2);
      checked(x, 9, 2, 2, 2, 2, 2, 2, 2, 2, 3);
      checked(x, 8, 2, 2, 2, 2, 2, 2, 2, 3, 3);
      checked(x, 0, 2, 2, 2, 2, 2, 2, 2);
    });
    Edge.of(40, "nobody behind one to seven", () -> {
      for (int people = 1; people < 8; people++) {
        ApronStrings x = new ApronStrings();
        int[] numbers = new int[people + 1];
        for (int i = 0; i < people; i++) x.one(10, -1, 0, 0);
        java.util.Arrays.fill(numbers, 2);
        checked(x, people + 1, numbers);
      }
    });
    Edge.of(40, "they GO as of now, not as of when it was told", () -> {
      ApronStrings x = new ApronStrings();
      x.one(10, -1, 0, 0);
      x.tell(3);
      x.day(1);
      Check.due("on day 1", x.check(), 0);
      x.tell(3);
      x.day(2);
      Check.due("on day 2", x.check(), 1);
    });
    Edge.of(40, "nothing else is changed by it", () -> {
      ApronStrings x = Edge.full();
      ApronStrings y = Edge.full();
      x.check();
      y.check();
      Edge.toldOnce(x, Edge.full(), 0);
      Check.due("count(6)", x.count(6), 60);
      Edge.alike(x, y);
    });
  }

  private static void countRefused() {
    Edge.beyond(41, "what", 0, 9, Edge::some, (x, v) -> x.count(v));
    Edge.beyond(41, "what, of nobody", 0, 9, Edge::fresh, (x, v) -> x.count(v));
    Edge.beyond(41, "what, of eight", 0, 9, Edge::full, (x, v) -> x.count(v));
  }

  private static void counts() {
    Edge.of(41, "the least of each", () -> {
      ApronStrings x = new ApronStrings();
      for (int what = 0; what < 9; what++) Check.due("count " + what, x.count(what), 0);
    });
    Edge.of(41, "the greatest of each", () -> {
      ApronStrings x = Edge.full();
      Check.due("PEOPLE", x.count(0), 8);
      Check.due("DAY", x.count(1), 9999);
      Check.due("bytes", x.count(6), 60);
      Check.due("waiting", x.count(7), 24);
      Check.due("BODIES", x.count(8), 6);
      x = new ApronStrings();
      for (int i = 0; i < 8; i++) x.one(10, i - 1, i % 2 * 63, 99);
      Check.due("strings", x.count(3), 254);
      Check.due("out", x.count(4), 441);
      Check.due("spare", x.count(5), 693);
      for (int i = 1; i < 8; i++) x.reel(i, 0);
      Check.due("spare", x.count(5), 0);
    });
    Edge.of(41, "CUTS: 7 in a STEP, none by cut()", () -> {
      ApronStrings x = Check.still();
      x.one(0, -1, 30, 0);
      for (int i = 1; i < 8; i++) x.one(10, 0, 30, 0);
      x.list(0, 0, 0);
      x.days(1);
      Check.due("cuts", x.count(2), 7);
      Check.due("strings", x.count(3), 0);
      Check.due("out", x.count(4), 0);
      x = Edge.full();
      for (int i = 1; i < 7; i++) x.cut(i);
      Check.due("cuts", x.count(2), 0);
    });
    Edge.of(41, "z is any number, and no ERROR for that", () -> {
      ApronStrings x = new ApronStrings();
      for (int z : new int[] {0, -1, MIN, MAX, Check.BEYOND, Check.NONE, Check.STATE, Check.FULL, Check.KIND, Check.PARTED}) {
        x.seed(z);
        Check.due("z", x.count(9), z);
      }
      for (int k = 1; k <= 6; k++) Check.due("told " + k, x.told(k), 0);
    });
    Edge.of(41, "nothing is changed by asking", () -> {
      ApronStrings x = Edge.full();
      for (int what = 0; what < 10; what++) x.count(what);
      Edge.toldOnce(x, Edge.full(), 0);
      Edge.alike(x, Edge.full());
    });
  }

  private static void told() {
    Edge.beyond(42, "k", 1, 6, Edge::some, (x, v) -> x.told(v));
    Edge.beyond(42, "k, of nobody", 1, 6, Edge::fresh, (x, v) -> x.told(v));
    Edge.beyond(42, "k, of eight", 1, 6, Edge::full, (x, v) -> x.told(v));
    Edge.of(42, "another k is counted, too, each time", () -> {
      ApronStrings x = new ApronStrings();
      int[] others = {0, 7, -1, MIN, MAX, Check.BEYOND};
      for (int i = 0; i < others.length; i++) {
        Check.due("told(" + others[i] + ")", x.told(others[i]), Check.BEYOND);
        Check.due("told(1)", x.told(1), i + 1);
      }
      for (int k = 2; k <= 6; k++) Check.due("told " + k, x.told(k), 0);
    });
    Edge.of(42, "to ask is no ERROR", () -> {
      ApronStrings x = new ApronStrings();
      for (int i = 0; i < 20; i++) {
        for (int k = 1; k <= 6; k++) Check.due("told " + k, x.told(k), 0);
      }
    });
  }

  private static void toldCounts() {
    Edge.of(42, "none, one, and hundreds of each ERROR", () -> {
      ApronStrings x = new ApronStrings();
      x.one(0, -1, 0, 0);
      for (int i = 0; i < 24; i++) x.tell(0);
      int[] due = new int[7];
      for (int i = 0; i < 470; i++) {
        int k = 1 + i % 6;
        int answer = k == 1 ? x.over(64) : k == 2 ? x.restore() : k == 3 ? x.cut(0) : k == 4 ? x.tell(0)
            : k == 5 ? x.as(0, 1) : x.voice(0, 3, 1);
        Check.due("an error", answer, Check.LOW - k);
        due[k]++;
      }
      for (int k = 1; k <= 6; k++) Check.due("told " + k, x.told(k), due[k]);
    });
    Edge.of(42, "what looks like an ERROR, but is a number, does not count", () -> {
      ApronStrings x = new ApronStrings();
      x.one(1, -1, 0, 0);
      for (int k = 1; k <= 6; k++) {
        x.seed(Check.LOW - k);
        x.voice(0, 0, Check.LOW - k);
        x.count(9);
        x.tell(Check.LOW - k);
      }
      x.seed(0);
      Check.text(x, 0, "+");
      for (int k = 1; k <= 6; k++) Check.due("told " + k, x.told(k), 0);
    });
    Edge.of(42, "where reels(), judge() and check() end is no ERROR", () -> {
      ApronStrings x = Edge.full();
      x.sheet(0, 8, 24);
      x.put(0, 1, 100);
      x.reels(0);
      x.judge(0);
      x.check();
      Edge.toldOnce(x, Edge.full(), 0);
    });
  }
}
