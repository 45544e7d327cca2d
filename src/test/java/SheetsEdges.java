/** The boundaries of promises 32 to 36. */
final class SheetsEdges {
  private static final int MIN = Integer.MIN_VALUE;
  private static final int MAX = Integer.MAX_VALUE;

  private SheetsEdges() {}

  static void all() {
    sheetRefused();
    sheet();
    putRefused();
    put();
    moveRefused();
    moveOrder();
    move();
    moved();
    reelsRefused();
    reels();
    judgeRefused();
    judge();
  }

  private static void sheetRefused() {
    for (int bits : new int[] {0, 8, 16, 32}) {
      Edge.beyond(32, bits + " bits, sheet", 0, 3, Edge::some, (x, v) -> x.sheet(v, bits, 1));
    }
    for (int bits : new int[] {MIN, -32, -16, -8, -1, 1, 4, 7, 9, 12, 15, 17, 24, 31, 33, 64, 264, MAX}) {
      Edge.refused(32, bits + " bits", Edge::full, Check.BEYOND, x -> x.sheet(0, bits, 1));
      Edge.refused(32, bits + " bits ahead of n below 0", Edge::full, Check.BEYOND, x -> x.sheet(0, bits, -1));
    }
    for (int bits : new int[] {8, 16, 32}) {
      for (int n : new int[] {-1, -24, MIN}) {
        Edge.refused(32, bits + " bits, n " + n, Edge::full, Check.STATE, x -> x.sheet(0, bits, n));
        Edge.refused(32, bits + " bits, missing, n " + n, Edge::full, Check.STATE, x -> x.sheet(3, bits, n));
        Edge.refused(32, "no such SHEET ahead of n " + n, Edge::some, Check.BEYOND, x -> x.sheet(4, bits, n));
        Edge.refused(32, "no such SHEET ahead of n " + n, Edge::some, Check.BEYOND, x -> x.sheet(-1, bits, n));
      }
      for (int n : new int[] {25, 26, MAX}) {
        Edge.refused(32, bits + " bits, n " + n, Edge::full, Check.BEYOND, x -> x.sheet(0, bits, n));
        Edge.refused(32, bits + " bits, missing, n " + n, Edge::full, Check.BEYOND, x -> x.sheet(3, bits, n));
      }
    }
  }

  /** How many numbers a SHEET has; -1 if it is missing. */
  private static int many(ApronStrings x, int sheet) {
    if (x.judge(sheet) == Check.NONE) return -1;
    int n = 0;
    while (n < 99 && x.move(sheet, 0, sheet, 0, n + 1) == n + 1) n++;
    return n;
  }

  private static void sheet() {
    Edge.of(32, "0, 1 and 24 numbers of 8, 16 and 32 bits, the first SHEET and the last", () -> {
      ApronStrings x = new ApronStrings();
      for (int sheet = 0; sheet < 4; sheet += 3) {
        for (int bits = 8; bits <= 32; bits *= 2) {
          for (int n : new int[] {0, 1, 24}) {
            Check.due("sheet", x.sheet(sheet, bits, n), 1);
            Check.due("numbers", many(x, sheet), n);
            Check.due("the others are missing", many(x, 3 - sheet) + many(x, 1) + many(x, 2), -3);
          }
        }
        Check.due("missing", x.sheet(sheet, 0, 24), 1);
      }
    });
    Edge.of(32, "0 bits: n does not matter", () -> {
      for (int n : new int[] {MIN, -1, 0, 1, 24, 25, MAX}) {
        ApronStrings x = Edge.full();
        Check.due("of 3 numbers", x.sheet(0, 0, n), 1);
        Check.due("is missing", many(x, 0), -1);
        Check.due("of 24 numbers", x.sheet(2, 0, n), 1);
        Check.due("is missing", x.put(2, 0, 0), Check.NONE);
        Check.due("one that is missing", x.sheet(3, 0, n), 1);
        Check.due("is missing", many(x, 3), -1);
        Check.due("no error of these", x.told(1) + x.told(3), 0);
        Check.due("the other one stays", many(x, 1), 3);
      }
    });
    Edge.of(32, "all are 0, whatever stood there", () -> {
      ApronStrings x = people(8);
      for (int bits = 8; bits <= 32; bits *= 2) {
        x.sheet(0, bits, 8);
        for (int i = 0; i < 8; i++) x.put(0, i, 99);
        Check.due("all 99", x.reels(0), 8);
        x.sheet(0, bits, 0);
        x.sheet(0, bits, 8);
        Check.due("all 0", x.reels(0), 8);
        Check.due("count(5)", x.count(5), 0);
        for (int i = 0; i < 8; i++) x.put(0, i, 99);
        x.sheet(0, 0, 8);
        x.sheet(0, bits, 8);
        Check.due("all 0", x.judge(0), 8);
        for (int i = 0; i < 8; i++) x.put(0, i, 99);
        x.sheet(0, bits == 32 ? 8 : 2 * bits, 8);
        Check.due("all 0 of other bits", x.judge(0), 8);
      }
    });
  }

  /** Each the child of the one ahead, all at cell 0. */
  private static ApronStrings people(int n) {
    ApronStrings x = new ApronStrings();
    for (int i = 0; i < n; i++) x.one(0, i - 1, 0, 50);
    return x;
  }

  private static ApronStrings sheets(int many) {
    ApronStrings x = Edge.some();
    x.sheet(2, 16, many);
    for (int i = 0; i < many; i++) x.put(2, i, 20 + i);
    return x;
  }

  private static void putRefused() {
    Edge.beyond(33, "sheet", 0, 3, Edge::some, (x, v) -> x.put(v, 0, 5));
    Edge.beyond(33, "sheet, and no such number,", 0, 3, Edge::full, (x, v) -> x.put(v, 24, 5));
    for (int i : new int[] {MIN, -1, 0, 23, 24, MAX}) {
      Edge.refused(33, "missing, number " + i, Edge::full, Check.NONE, x -> x.put(3, i, 5));
      Edge.refused(33, "missing, of a new object, number " + i, Edge::fresh, Check.NONE, x -> x.put(0, i, 5));
    }
    for (int many : new int[] {0, 1, 23, 24}) {
      Edge.beyond(33, "of " + many + " numbers, number", 0, many - 1, () -> sheets(many), (x, v) -> x.put(2, v, 5));
    }
  }

  /** What a number of one bit row becomes, by what it makes a STRING have to SPARE; -1 if it is none of 0 to 99. */
  private static int became(int bits, int i, int v) {
    ApronStrings x = people(2);
    x.sheet(1, bits, 24);
    Check.due("put " + v, x.put(1, i, v), 1);
    x.sheet(2, bits, 2);
    x.move(1, i, 2, 1, 1);
    return x.reels(2) == 2 ? x.oneIs(1, 5) : -1;
  }

  private static void put() {
    for (int bits = 8; bits <= 32; bits *= 2) {
      int of = bits;
      Edge.of(33, "the lowest " + bits + " bits", () -> {
        int[] any = {0, 1, 99, 100, 127, 128, 255, 256, 256 + 99, 256 + 100, 32768, 65535, 65536, 65536 + 99, 65536 + 256,
            1 << 24, (1 << 24) + 7, -1, -157, -256, -256 + 99, -65536, -65536 + 99, MIN, MIN + 99, MAX};
        for (int v : any) {
          long low = of == 32 ? v : v & (1L << of) - 1;
          int want = low >= 0 && low <= 99 ? (int) low : -1;
          Check.due(v + " as number 0", became(of, 0, v), want);
          Check.due(v + " as number 23", became(of, 23, v), want);
        }
      });
    }
    Edge.of(33, "the numbers beside it stay", () -> {
      ApronStrings x = people(8);
      x.sheet(0, 8, 8);
      for (int i = 0; i < 8; i++) x.put(0, i, 10 + i);
      Check.due("put", x.put(0, 3, -1 << 8 | 77), 1);
      Check.due("reels", x.reels(0), 8);
      for (int i = 1; i < 8; i++) Check.due("number " + i, x.oneIs(i, 5), i == 3 ? 77 : 10 + i);
    });
  }

  private static void moveRefused() {
    Edge.beyond(34, "sheet", 0, 3, Edge::full, (x, v) -> x.move(v, 0, 0, 0, 1));
    Edge.beyond(34, "other", 0, 3, Edge::full, (x, v) -> x.move(0, 0, v, 0, 1));
    Edge.beyond(34, "both", 0, 3, Edge::full, (x, v) -> x.move(v, 0, v, 0, 0));
    Edge.refused(34, "the one is missing", Edge::full, Check.NONE, x -> x.move(3, 0, 0, 0, 0));
    Edge.refused(34, "the other one is missing", Edge::full, Check.NONE, x -> x.move(0, 0, 3, 0, 0));
    Edge.refused(34, "both are missing, the same", Edge::full, Check.NONE, x -> x.move(3, 0, 3, 0, 0));
    Edge.refused(34, "both are missing", Edge::fresh, Check.NONE, x -> x.move(0, 0, 1, 0, 0));
    for (int[] pair : new int[][] {{0, 1}, {1, 0}, {0, 2}, {2, 0}, {1, 2}, {2, 1}}) {
      Edge.refused(34, "unlike bits, " + pair[0] + " to " + pair[1], Edge::full, Check.KIND,
          x -> x.move(pair[0], 0, pair[1], 0, 0));
    }
    // SHEET 1 has 3 numbers of 16 bits, SHEET 2 as many as told.
    for (int many : new int[] {0, 1, 24}) {
      String of = "of " + many + ", ";
      Edge.beyond(34, of + "n", 0, Math.min(many, 3), () -> sheets(many), (x, v) -> x.move(2, 0, 1, 0, v));
      Edge.beyond(34, of + "n, within one", 0, many, () -> sheets(many), (x, v) -> x.move(2, 0, 2, 0, v));
      Edge.beyond(34, of + "i with n 0", 0, many, () -> sheets(many), (x, v) -> x.move(2, v, 1, 0, 0));
      Edge.beyond(34, of + "j with n 0", 0, many, () -> sheets(many), (x, v) -> x.move(1, 0, 2, v, 0));
      Edge.beyond(34, of + "i with n 1", 0, many - 1, () -> sheets(many), (x, v) -> x.move(2, v, 1, 0, 1));
      Edge.beyond(34, of + "j with n 1", 0, many - 1, () -> sheets(many), (x, v) -> x.move(1, 0, 2, v, 1));
    }
    int[][] wrong = {{22, 0, 3}, {0, 22, 3}, {1, 1, 24}, {1, 0, 24}, {0, 1, 24}, {1, 1, MAX}, {MAX, 1, 1}, {1, MAX, 1},
        {MAX, MAX, MAX}, {MIN, MIN, MIN}, {-1, 2, 1}, {2, -1, 1}, {2, 2, -1}, {MAX, 0, 2}, {0, MAX, MAX}, {12, 12, 13}};
    for (int[] w : wrong) {
      Edge.refused(34, w[2] + " numbers from " + w[0] + " to " + w[1], () -> sheets(24), Check.BEYOND,
          x -> x.move(2, w[0], 2, w[1], w[2]));
    }
  }

  private static void moveOrder() {
    Edge.refused(34, "BEYOND of SHEET ahead of NONE", Edge::full, Check.BEYOND, x -> x.move(4, 0, 3, 0, 0));
    Edge.refused(34, "BEYOND of the other one ahead of NONE", Edge::full, Check.BEYOND, x -> x.move(3, 0, -1, 0, 0));
    Edge.refused(34, "BEYOND of SHEET, of n, i and j", Edge::full, Check.BEYOND, x -> x.move(4, -1, 0, -1, -1));
    for (int n : new int[] {MIN, -1, 25, MAX}) {
      Edge.refused(34, "NONE ahead of BEYOND, n " + n, Edge::full, Check.NONE, x -> x.move(0, 0, 3, 0, n));
      Edge.refused(34, "NONE ahead of BEYOND, i " + n, Edge::full, Check.NONE, x -> x.move(3, n, 0, 0, 1));
      Edge.refused(34, "NONE ahead of BEYOND, j " + n, Edge::full, Check.NONE, x -> x.move(3, 0, 3, n, 1));
      Edge.refused(34, "KIND ahead of BEYOND, n " + n, Edge::full, Check.KIND, x -> x.move(0, 0, 1, 0, n));
      Edge.refused(34, "KIND ahead of BEYOND, i " + n, Edge::full, Check.KIND, x -> x.move(1, n, 2, 0, 1));
      Edge.refused(34, "KIND ahead of BEYOND, j " + n, Edge::full, Check.KIND, x -> x.move(2, 0, 0, n, 1));
    }
  }

  private static void move() {
    Edge.of(34, "n 0, at the beginning, at the end, of SHEETS of 0 numbers", () -> {
      ApronStrings x = sheets(24);
      Check.due("0 from 0", x.move(2, 0, 1, 0, 0), 0);
      Check.due("0 from 24 to 3", x.move(2, 24, 1, 3, 0), 0);
      Check.due("0 from 3 to 24", x.move(1, 3, 2, 24, 0), 0);
      Check.due("0 from 24 to 24", x.move(2, 24, 2, 24, 0), 0);
      Edge.alike(x, sheets(24));
      x = sheets(0);
      Check.due("of none", x.move(2, 0, 2, 0, 0), 0);
      Check.due("of none to 3", x.move(2, 0, 1, 3, 0), 0);
      Check.due("no error", x.told(1), 0);
    });
    Edge.of(34, "all 24, to another one and to itself", () -> {
      ApronStrings x = sheets(24);
      x.sheet(1, 16, 24);
      Check.due("move", x.move(2, 0, 1, 0, 24), 24);
      ApronStrings y = sheets(24);
      y.sheet(1, 16, 24);
      for (int i = 0; i < 24; i++) y.put(1, i, 20 + i);
      Edge.alike(x, y);
      x = sheets(24);
      Check.due("move", x.move(2, 0, 2, 0, 24), 24);
      Edge.alike(x, sheets(24));
    });
    Edge.of(34, "the last one to the first place, and the first to the last", () -> {
      ApronStrings x = sheets(24);
      Check.due("move", x.move(2, 23, 1, 0, 1), 1);
      Check.due("move", x.move(2, 0, 1, 2, 1), 1);
      ApronStrings y = sheets(24);
      y.put(1, 0, 43);
      y.put(1, 2, 20);
      Edge.alike(x, y);
    });
  }

  private static void moved() {
    Edge.of(34, "as they all were, upward and downward, by 1 and by 12", () -> {
      for (int by : new int[] {1, 12, 23}) {
        ApronStrings x = sheets(24);
        Check.due("up", x.move(2, 0, 2, by, 24 - by), 24 - by);
        ApronStrings y = sheets(24);
        for (int i = by; i < 24; i++) y.put(2, i, 20 + i - by);
        Edge.alike(x, y);
        x = sheets(24);
        Check.due("down", x.move(2, by, 2, 0, 24 - by), 24 - by);
        y = sheets(24);
        for (int i = 0; i < 24 - by; i++) y.put(2, i, 20 + i + by);
        Edge.alike(x, y);
      }
    });
    Edge.of(34, "where they come from they stay", () -> {
      ApronStrings x = sheets(24);
      x.move(2, 5, 1, 0, 3);
      ApronStrings y = sheets(24);
      for (int i = 0; i < 3; i++) y.put(1, i, 25 + i);
      Edge.alike(x, y);
    });
  }

  private static void reelsRefused() {
    Edge.beyond(35, "sheet", 0, 3, Edge::some, (x, v) -> x.reels(v));
    Edge.beyond(35, "sheet, of nobody", 0, 3, Edge::fresh, (x, v) -> x.reels(v));
    for (int sheet = 0; sheet < 4; sheet++) {
      int asked = sheet;
      Edge.refused(35, "missing, " + sheet, Edge::fresh, Check.NONE, x -> x.reels(asked));
    }
    Edge.refused(35, "missing, of eight", Edge::full, Check.NONE, x -> x.reels(3));
  }

  private static ApronStrings told(int people, int bits, int... numbers) {
    ApronStrings x = people(people);
    x.sheet(0, bits, numbers.length);
    for (int i = 0; i < numbers.length; i++) x.put(0, i, numbers[i]);
    return x;
  }

  private static void reeled(ApronStrings x, int want, int... spares) {
    Check.due("reels", x.reels(0), want);
    for (int i = 0; i < spares.length; i++) Check.due("spare of " + i, x.oneIs(i, 5), spares[i]);
    Check.due("no error", x.told(1) + x.told(2) + x.told(3), 0);
  }

  private static void reels() {
    Edge.of(35, "nobody, and a SHEET of 0 numbers", () -> {
      reeled(told(0, 8), 0);
      reeled(told(0, 8, 1, 2, 3), 0);
      reeled(told(3, 8), 0, 0, 50, 50);
      reeled(told(3, 32), 0, 0, 50, 50);
    });
    Edge.of(35, "0 and 99, -1 and 100", () -> {
      reeled(told(3, 8, 0, 0, 99), 3, 0, 0, 99);
      reeled(told(3, 32, 0, 99, 0), 3, 0, 99, 0);
      reeled(told(3, 8, 0, 7, 100), 2, 0, 7, 50);
      reeled(told(3, 8, 0, 100, 7), 1, 0, 50, 50);
      reeled(told(3, 32, 0, -1, 7), 1, 0, 50, 50);
      reeled(told(3, 8, 0, -1, 7), 1, 0, 50, 50);
      reeled(told(3, 16, 0, -1, 7), 1, 0, 50, 50);
      reeled(told(3, 32, 0, MIN, 7), 1, 0, 50, 50);
      reeled(told(3, 32, 0, MAX, 7), 1, 0, 50, 50);
      reeled(told(3, 16, 0, 256, 7), 1, 0, 50, 50);
      reeled(told(3, 8, 0, 256, 7), 3, 0, 0, 7);
    });
    Edge.of(35, "one who has no STRING counts, but not with 100", () -> {
      reeled(told(3, 8, 99, 7, 8), 3, 0, 7, 8);
      reeled(told(3, 8, 100, 7, 8), 0, 0, 50, 50);
      reeled(told(3, 32, -1, 7, 8), 0, 0, 50, 50);
      ApronStrings x = told(3, 8, 99, 7, 8);
      x.cut(1);
      reeled(x, 3, 0, 0, 8);
    });
    Edge.of(35, "fewer numbers than PEOPLE, as many, more", () -> {
      reeled(told(3, 8, 1, 2), 2, 0, 2, 50);
      reeled(told(3, 8, 1, 2, 3), 3, 0, 2, 3);
      reeled(told(3, 8, 1, 2, 3, 4), 3, 0, 2, 3);
      reeled(told(3, 8, 1, 2, 3, 100), 3, 0, 2, 3);
      reeled(told(1, 8, 1), 1, 0);
    });
    Edge.of(35, "eight PEOPLE, a SHEET of 24 numbers", () -> {
      int[] numbers = new int[24];
      for (int i = 0; i < 24; i++) numbers[i] = 90 + i % 10;
      reeled(told(8, 16, numbers), 8, 0, 91, 92, 93, 94, 95, 96, 97);
    });
  }

  private static void judgeRefused() {
    Edge.beyond(36, "sheet", 0, 3, Edge::some, (x, v) -> x.judge(v));
    Edge.beyond(36, "sheet, of nobody", 0, 3, Edge::fresh, (x, v) -> x.judge(v));
    for (int sheet = 0; sheet < 4; sheet++) {
      int asked = sheet;
      Edge.refused(36, "missing, " + sheet, Edge::fresh, Check.NONE, x -> x.judge(asked));
    }
    Edge.refused(36, "missing, of eight", Edge::full, Check.NONE, x -> x.judge(3));
  }

  private static void judged(int bits, int want, int... numbers) {
    ApronStrings x = new ApronStrings();
    x.one(0, -1, 0, 0);
    x.one(0, 0, 63, 0);
    x.one(0, -1, 30, 0);
    x.sheet(3, bits, numbers.length);
    for (int i = 0; i < numbers.length; i++) x.put(3, i, numbers[i]);
    Check.due("judge", x.judge(3), want);
    for (int k = 1; k <= 6; k++) Check.due("told " + k, x.told(k), 0);
  }

  private static void judge() {
    Edge.of(36, "nobody, and a SHEET of 0 numbers", () -> {
      ApronStrings x = new ApronStrings();
      x.sheet(0, 8, 24);
      Check.due("nobody", x.judge(0), 0);
      x.sheet(0, 8, 0);
      Check.due("nobody, no number", x.judge(0), 0);
      judged(8, 0);
      judged(16, 0);
      judged(32, 0);
    });
    Edge.of(36, "none to all of them, cells 0 and 63", () -> {
      judged(8, 0, 1, 63, 30);
      judged(8, 1, 0, 62, 30);
      judged(8, 2, 0, 63, 31);
      judged(8, 3, 0, 63, 30);
    });
    Edge.of(36, "fewer numbers than PEOPLE, as many, more", () -> {
      judged(16, 1, 0);
      judged(16, 2, 0, 63);
      judged(16, 3, 0, 63, 30);
      judged(16, 3, 0, 63, 30, 0);
    });
    Edge.of(36, "by the lowest bits", () -> {
      judged(8, 3, 256, -193, 30 + 65536);
      judged(16, 0, 256, 63, 30);
      judged(16, 3, 65536, -65473, 30 + (1 << 20));
      judged(32, 0, 65536, 63, 30);
      judged(32, 1, 0, -1, 30);
      judged(32, 1, 0, MIN + 63, 30);
    });
    Edge.of(36, "eight PEOPLE, a SHEET of 24 numbers", () -> {
      ApronStrings x = Edge.full();
      x.sheet(3, 32, 24);
      for (int i = 0; i < 8; i++) x.put(3, i, x.oneIs(i, 3));
      Check.due("all eight", x.judge(3), 8);
      x.put(3, 7, 62);
      Check.due("seven", x.judge(3), 7);
    });
    Edge.of(36, "nothing is changed by it", () -> {
      ApronStrings x = Edge.full();
      for (int sheet = 0; sheet < 3; sheet++) x.judge(sheet);
      Edge.toldOnce(x, Edge.full(), 0);
      Edge.alike(x, Edge.full());
    });
  }
}
