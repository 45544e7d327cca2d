/** Promises 18 to 22. */
public final class LinesTest {
  private LinesTest() {}

  public static void main(String[] args) {
    ApronStrings x = new ApronStrings();
    Check.about("18 to 22, nobody");
    Check.due("over(0)", x.over(0), 0);
    Check.due("knot(0)", x.knot(0), 0);
    Check.due("knot(1)", x.knot(1), 0);
    Check.due("crossings()", x.crossings(), 0);
    x.one(0, -1, 10, 0);
    x.one(0, 0, 20, 3);
    x.one(0, 1, 15, 0);
    x.one(0, 0, 5, 1);
    x.one(0, -1, 40, 0);
    x.one(0, 4, 18, 2);
    lines(x);
    knots(x);
    crossings();
    Check.end("LinesTest");
  }

  private static void lines(ApronStrings x) {
    Check.about("18");
    int[] lines = {1, 3, 7, 9, 16, 48};
    for (int one = 0; one < 6; one++) Check.due("line " + one, x.line(one), lines[one]);
    Check.due("line(6)", x.line(6), Check.BEYOND);
    Check.due("line(-1)", x.line(-1), Check.BEYOND);
    Check.about("19");
    Check.due("between(2, 3)", x.between(2, 3), 20);
    Check.due("between(3, 2)", x.between(3, 2), 20);
    Check.due("between(1, 2)", x.between(1, 2), 5);
    Check.due("between(0, 2)", x.between(0, 2), 15);
    Check.due("between(2, 2)", x.between(2, 2), 0);
    Check.due("between(4, 5)", x.between(4, 5), 22);
    Check.due("between(4, 0)", x.between(4, 0), Check.NONE);
    Check.due("between(6, 0)", x.between(6, 0), Check.BEYOND);
    Check.due("between(0, 6)", x.between(0, 6), Check.BEYOND);
    Check.due("between(-1, 0)", x.between(-1, 0), Check.BEYOND);
    // How far a STRING is OUT counts, not how far its ends are apart.
    x.image();
    x.list(0, 1, 0);
    x.days(1);
    Check.due("ends of 1", x.oneIs(1, 6), 8);
    Check.due("between(0, 1)", x.between(0, 1), 10);
    x.cut(1);
    Check.due("line(2), cut above", x.line(2), 6);
    Check.due("between(2, 3), cut above", x.between(2, 3), Check.NONE);
    x.restore();
  }

  private static void knots(ApronStrings x) {
    Check.about("20");
    int[] cells = {4, 5, 9, 10, 11, 14, 15, 17, 18, 20, 21, 40, 41, 0, 63};
    int[] over = {0, 8, 8, 10, 2, 2, 6, 6, 38, 38, 32, 32, 0, 0, 0};
    for (int i = 0; i < cells.length; i++) Check.due("over " + cells[i], x.over(cells[i]), over[i]);
    Check.due("over(-1)", x.over(-1), Check.BEYOND);
    Check.due("over(64)", x.over(64), Check.BEYOND);
    Check.about("21");
    Check.due("knot(0)", x.knot(0), 18);
    Check.due("knot(1)", x.knot(1), 3);
    Check.due("knot(2)", x.knot(2), Check.BEYOND);
    Check.due("knot(-1)", x.knot(-1), Check.BEYOND);
    Check.about("22");
    Check.due("crossings()", x.crossings(), 2);
    ApronStrings end = new ApronStrings();
    end.one(0, -1, 63, 0);
    end.one(0, 0, 63, 0);
    Check.about("21");
    Check.due("a string within a cell", end.knot(0), 63);
    Check.due("a string within a cell", end.knot(1), 1);
    end = new ApronStrings();
    end.one(0, -1, 0, 0);
    end.one(0, 0, 0, 0);
    end.one(0, -1, 7, 0);
    end.one(0, 2, 7, 0);
    Check.due("of 0 and 7 the least", end.knot(0), 0);
    end.cut(3);
    Check.due("at 0 alone", end.knot(1), 1);
  }

  private static void crossing(int a, int b, int c, int d, int want) {
    oneWay(a, b, c, d, want);
    oneWay(c, d, a, b, want);
  }

  private static void oneWay(int a, int b, int c, int d, int want) {
    ApronStrings x = new ApronStrings();
    x.one(0, -1, a, 0);
    x.one(0, 0, b, 0);
    x.one(0, -1, c, 0);
    x.one(0, 2, d, 0);
    Check.due("crossings of " + a + " to " + b + ", " + c + " to " + d, x.crossings(), want);
  }

  private static void crossings() {
    Check.about("22");
    crossing(10, 20, 15, 25, 1);
    crossing(20, 10, 15, 25, 1);
    crossing(15, 25, 20, 10, 1);
    crossing(10, 20, 20, 30, 0);
    crossing(10, 20, 10, 30, 0);
    crossing(10, 20, 15, 20, 0);
    crossing(10, 40, 15, 25, 0);
    crossing(15, 25, 40, 10, 0);
    crossing(10, 20, 21, 30, 0);
    crossing(10, 20, 19, 21, 1);
    crossing(10, 20, 15, 15, 0);
    crossing(10, 20, 10, 20, 0);
  }
}
