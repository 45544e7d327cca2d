/** The boundaries of promises 18 to 22, and of Term 3's LINE, BETWEEN, OVER, KNOT, CROSSINGS. */
final class LinesEdges {
  private LinesEdges() {}

  static void all() {
    line();
    betweenRefused();
    between();
    over();
    knot();
    crossings();
    pairs();
    unchanged();
  }

  /** Each the child of the one ahead, at cells 0 and 63 by turns, so that each STRING is OUT 63. */
  private static ApronStrings row(int people) {
    ApronStrings x = new ApronStrings();
    for (int i = 0; i < people; i++) x.one(0, i - 1, i % 2 * 63, 99);
    return x;
  }

  private static void line() {
    Edge.beyond(18, "one of three", 0, 2, Edge::some, (x, v) -> x.line(v));
    Edge.beyond(18, "one of eight", 0, 7, Edge::full, (x, v) -> x.line(v));
    Edge.refused(18, "nobody", Edge::fresh, Check.BEYOND, x -> x.line(0));
    Edge.of(18, "no STRING, one, and seven", () -> {
      ApronStrings x = row(8);
      for (int one = 0; one < 8; one++) Check.due("line " + one, x.line(one), (2 << one) - 1);
      Check.due("of one alone", row(1).line(0), 1);
    });
    Edge.of(18, "a STRING that is cut in a LINE", () -> {
      ApronStrings x = row(8);
      x.cut(4);
      for (int one = 0; one < 8; one++) {
        Check.due("line " + one, x.line(one), one < 4 ? (2 << one) - 1 : (2 << one) - 16);
      }
      for (int one = 1; one < 8; one++) x.cut(one);
      for (int one = 0; one < 8; one++) Check.due("line " + one, x.line(one), 1 << one);
    });
    Edge.of(18, "CHILDREN are not in it", () -> {
      ApronStrings x = new ApronStrings();
      for (int i = 0; i < 8; i++) x.one(0, i == 0 ? -1 : 0, 9, 0);
      Check.due("line(0)", x.line(0), 1);
      Check.due("line(7)", x.line(7), 129);
    });
  }

  private static void betweenRefused() {
    Edge.beyond(19, "a of three", 0, 2, Edge::some, (x, v) -> x.between(v, 0));
    Edge.beyond(19, "b of three", 0, 2, Edge::some, (x, v) -> x.between(0, v));
    Edge.beyond(19, "a and b", 0, 2, Edge::some, (x, v) -> x.between(v, v));
    Edge.beyond(19, "a of eight, BEYOND ahead of NONE", 0, 7, Edge::full, (x, v) -> x.between(v, 7));
    Edge.beyond(19, "b of eight, BEYOND ahead of NONE", 0, 7, Edge::full, (x, v) -> x.between(7, v));
    Edge.refused(19, "nobody", Edge::fresh, Check.BEYOND, x -> x.between(0, 0));
    Edge.refused(19, "nobody is in the LINE of both", Edge::full, Check.NONE, x -> x.between(0, 7));
    Edge.refused(19, "nobody is in the LINE of both, turned", Edge::full, Check.NONE, x -> x.between(7, 6));
    Edge.refused(19, "a STRING on the way is cut", LinesEdges::torn, Check.NONE, x -> x.between(3, 4));
    Edge.refused(19, "a STRING at the end is cut", LinesEdges::torn, Check.NONE, x -> x.between(0, 7));
  }

  private static ApronStrings torn() {
    ApronStrings x = row(8);
    x.cut(4);
    return x;
  }

  private static void between() {
    Edge.of(19, "one and itself", () -> {
      ApronStrings x = row(8);
      for (int one = 0; one < 8; one++) Check.due("between " + one, x.between(one, one), 0);
    });
    Edge.of(19, "one STRING to seven, each OUT 63", () -> {
      ApronStrings x = row(8);
      for (int a = 0; a < 8; a++) {
        for (int b = 0; b < 8; b++) Check.due(a + " and " + b, x.between(a, b), 63 * Math.abs(a - b));
      }
    });
    Edge.of(19, "STRINGS that are OUT 0", () -> {
      ApronStrings x = new ApronStrings();
      for (int i = 0; i < 8; i++) x.one(0, i - 1, 9, 99);
      Check.due("0 and 7", x.between(0, 7), 0);
    });
    Edge.of(19, "the first one that is in the LINE of both", () -> {
      ApronStrings x = new ApronStrings();
      x.one(0, -1, 10, 0);
      x.one(0, 0, 15, 0);
      x.one(0, 1, 17, 0);
      x.one(0, 1, 11, 0);
      x.one(0, 0, 9, 0);
      Check.due("of one mother", x.between(2, 3), 6);
      Check.due("turned", x.between(3, 2), 6);
      Check.due("of one farther up", x.between(3, 4), 10);
      Check.due("one of them the mother", x.between(1, 3), 4);
    });
    Edge.of(19, "OUT, not how far apart", () -> {
      ApronStrings x = Check.still();
      x.one(0, -1, 10, 0);
      x.one(0, 0, 12, 0);
      x.list(0, 1, 0);
      x.days(1);
      Check.due("apart", x.oneIs(1, 6), 0);
      Check.due("between", x.between(0, 1), 2);
    });
  }

  private static void over() {
    Edge.beyond(20, "cell", 0, 63, Edge::some, (x, v) -> x.over(v));
    Edge.beyond(20, "cell, of nobody", 0, 63, Edge::fresh, (x, v) -> x.over(v));
    Edge.beyond(20, "cell, of eight", 0, 63, Edge::full, (x, v) -> x.over(v));
    Edge.of(20, "no STRING", () -> {
      ApronStrings x = new ApronStrings();
      x.one(0, -1, 0, 0);
      x.one(0, -1, 63, 0);
      for (int cell = 0; cell < 64; cell++) Check.due("over " + cell, x.over(cell), 0);
    });
    Edge.of(20, "seven STRINGS over cells 0 to 63", () -> {
      ApronStrings x = row(8);
      for (int cell = 0; cell < 64; cell++) Check.due("over " + cell, x.over(cell), 254);
    });
    Edge.of(20, "at the ends, just within, just without", () -> {
      int[][] ends = {{20, 30}, {30, 20}, {0, 1}, {63, 62}, {0, 63}, {7, 7}};
      for (int[] e : ends) {
        ApronStrings x = new ApronStrings();
        x.one(0, -1, e[0], 0);
        x.one(0, 0, e[1], 99);
        int low = Math.min(e[0], e[1]);
        int high = Math.max(e[0], e[1]);
        for (int cell = 0; cell < 64; cell++) {
          Check.due(e[0] + " to " + e[1] + " over " + cell, x.over(cell), cell >= low && cell <= high ? 2 : 0);
        }
      }
    });
    Edge.of(20, "by its ends, not by how far it is OUT", () -> {
      ApronStrings x = Check.still();
      x.one(0, -1, 10, 0);
      x.one(0, 0, 14, 0);
      x.list(0, 1, 0);
      x.days(1);
      Check.due("over(12)", x.over(12), 2);
      Check.due("over(13)", x.over(13), 0);
      Check.due("over(9)", x.over(9), 0);
    });
  }

  private static void knot() {
    Edge.beyond(21, "what", 0, 1, Edge::some, (x, v) -> x.knot(v));
    Edge.beyond(21, "what, of nobody", 0, 1, Edge::fresh, (x, v) -> x.knot(v));
    Edge.of(21, "no STRING: 0 and 0", () -> {
      Check.due("of nobody", new ApronStrings().knot(0), 0);
      Check.due("of nobody", new ApronStrings().knot(1), 0);
      ApronStrings x = row(8);
      for (int one = 1; one < 8; one++) x.cut(one);
      Check.due("of eight", x.knot(0), 0);
      Check.due("of eight", x.knot(1), 0);
      x = new ApronStrings();
      x.one(0, -1, 63, 0);
      Check.due("of one at 63", x.knot(0), 0);
      Check.due("of one at 63", x.knot(1), 0);
    });
    Edge.of(21, "of several cells the least", () -> {
      Check.due("all are as many", row(8).knot(0), 0);
      Check.due("seven", row(8).knot(1), 7);
      ApronStrings x = new ApronStrings();
      x.one(0, -1, 40, 0);
      x.one(0, 0, 20, 0);
      Check.due("the lower end", x.knot(0), 20);
      Check.due("one", x.knot(1), 1);
      x.one(0, -1, 5, 0);
      x.one(0, 2, 19, 0);
      Check.due("a lower string", x.knot(0), 5);
      x.one(0, 0, 35, 0);
      Check.due("two are more", x.knot(0), 35);
      Check.due("two", x.knot(1), 2);
    });
    Edge.of(21, "at cell 63 and at cell 0", () -> {
      ApronStrings x = new ApronStrings();
      x.one(0, -1, 63, 0);
      x.one(0, 0, 63, 0);
      x.one(0, 0, 60, 0);
      Check.due("where both meet", x.knot(0), 63);
      Check.due("two", x.knot(1), 2);
      x = new ApronStrings();
      x.one(0, -1, 0, 0);
      x.one(0, 0, 0, 0);
      Check.due("within cell 0", x.knot(0), 0);
      Check.due("one", x.knot(1), 1);
    });
  }

  private static void crossings() {
    Edge.of(22, "no STRING, one STRING", () -> {
      Check.due("of nobody", new ApronStrings().crossings(), 0);
      Check.due("of one", row(1).crossings(), 0);
      Check.due("of two", row(2).crossings(), 0);
      ApronStrings x = new ApronStrings();
      for (int i = 0; i < 8; i++) x.one(0, -1, 8 * i, 0);
      Check.due("of eight without", x.crossings(), 0);
      Check.due("of seven with the same ends", row(8).crossings(), 0);
    });
    Edge.of(22, "all pairs of four", () -> {
      ApronStrings x = new ApronStrings();
      for (int i = 0; i < 4; i++) {
        x.one(0, -1, i, 0);
        x.one(0, 2 * i, 60 + i, 0);
      }
      Check.due("six", x.crossings(), 6);
      x.cut(1);
      Check.due("three", x.crossings(), 3);
      x.cut(7);
      Check.due("one", x.crossings(), 1);
    });
    Edge.of(22, "STRINGS of one mother never do", () -> {
      ApronStrings x = new ApronStrings();
      x.one(0, -1, 30, 0);
      for (int i = 0; i < 7; i++) x.one(0, 0, 27 + i, 0);
      Check.due("none", x.crossings(), 0);
    });
    Edge.of(22, "a mother's and her child's child's", () -> {
      ApronStrings x = new ApronStrings();
      x.one(0, -1, 10, 0);
      x.one(0, 0, 20, 0);
      x.one(0, 1, 30, 0);
      x.one(0, 2, 15, 0);
      Check.due("10 to 20 and 30 to 15", x.crossings(), 1);
    });
  }

  private static void pair(int a, int b, int c, int d, int want) {
    int[][] turned = {{a, b, c, d}, {b, a, c, d}, {a, b, d, c}, {b, a, d, c}, {c, d, a, b}, {d, c, b, a}};
    for (int[] t : turned) {
      ApronStrings x = new ApronStrings();
      x.one(0, -1, t[0], 0);
      x.one(0, 0, t[1], 0);
      x.one(0, -1, t[2], 0);
      x.one(0, 2, t[3], 0);
      Check.due(t[0] + " to " + t[1] + " and " + t[2] + " to " + t[3], x.crossings(), want);
    }
  }

  private static void pairs() {
    Edge.of(22, "just one end truly between", () -> {
      pair(0, 62, 1, 63, 1);
      pair(10, 20, 19, 21, 1);
      pair(10, 20, 11, 21, 1);
      pair(10, 20, 9, 11, 1);
      pair(10, 12, 11, 13, 1);
    });
    Edge.of(22, "none, or both ends between", () -> {
      pair(0, 63, 1, 62, 0);
      pair(10, 20, 11, 19, 0);
      pair(10, 20, 21, 30, 0);
      pair(10, 20, 15, 15, 0);
      pair(10, 11, 12, 13, 0);
    });
    Edge.of(22, "an end at an end", () -> {
      pair(10, 20, 20, 30, 0);
      pair(10, 20, 10, 30, 0);
      pair(10, 20, 10, 15, 0);
      pair(10, 20, 15, 20, 0);
      pair(10, 20, 10, 20, 0);
      pair(10, 20, 10, 10, 0);
      pair(10, 10, 10, 10, 0);
    });
    Edge.of(22, "by the ends, not by how far it is OUT", () -> {
      ApronStrings x = Check.still();
      x.one(0, -1, 10, 0);
      x.one(0, 0, 16, 0);
      x.one(0, -1, 15, 0);
      x.one(0, 2, 30, 0);
      Check.due("crossing", x.crossings(), 1);
      x.list(0, 1, 0);
      x.days(1);
      Check.due("no more", x.crossings(), 0);
    });
  }

  private static void unchanged() {
    Edge.of(18, "nothing is changed by asking, 18 to 22", () -> {
      ApronStrings x = Edge.full();
      x.line(6);
      x.between(4, 6);
      x.over(30);
      x.knot(0);
      x.knot(1);
      x.crossings();
      Edge.toldOnce(x, Edge.full(), 0);
      Edge.alike(x, Edge.full());
    });
  }
}
