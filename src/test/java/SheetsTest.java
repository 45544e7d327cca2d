/** Promises 32 to 36. */
public final class SheetsTest {
  private SheetsTest() {}

  public static void main(String[] args) {
    sheet();
    put();
    move();
    reels();
    judge();
    Check.end("SheetsTest");
  }

  /** A number of a SHEET, by what it makes a STRING have to SPARE; -1 if it is none of 0 to 99. Takes SHEET 3. */
  private static int number(ApronStrings x, int sheet, int i) {
    for (int bits = 8; bits <= 32; bits *= 2) {
      x.sheet(3, bits, 2);
      if (x.move(sheet, 0, 3, 0, 0) == 0) break;
    }
    x.move(sheet, i, 3, 1, 1);
    return x.reels(3) == 2 ? x.oneIs(1, 5) : -1;
  }

  /** An object with one who has no STRING, and one who has, for number(). */
  private static ApronStrings fresh() {
    ApronStrings x = new ApronStrings();
    x.one(0, -1, 0, 0);
    x.one(0, 0, 0, 0);
    return x;
  }

  private static void sheet() {
    Check.about("32");
    ApronStrings x = new ApronStrings();
    Check.due("8 bits", x.sheet(0, 8, 24), 1);
    Check.due("16 bits", x.sheet(1, 16, 0), 1);
    Check.due("32 bits", x.sheet(3, 32, 1), 1);
    Check.due("no sheet -1", x.sheet(-1, 8, 1), Check.BEYOND);
    Check.due("no sheet 4", x.sheet(4, 0, 1), Check.BEYOND);
    Check.due("7 bits", x.sheet(0, 7, 1), Check.BEYOND);
    Check.due("-8 bits", x.sheet(0, -8, 1), Check.BEYOND);
    Check.due("64 bits", x.sheet(0, 64, 1), Check.BEYOND);
    Check.due("7 bits ahead of n", x.sheet(0, 7, -1), Check.BEYOND);
    Check.due("no sheet ahead of n", x.sheet(4, 8, -1), Check.BEYOND);
    Check.due("n 25", x.sheet(0, 8, 25), Check.BEYOND);
    Check.due("n -1", x.sheet(0, 8, -1), Check.STATE);
    Check.due("n the least", x.sheet(0, 8, Integer.MIN_VALUE), Check.STATE);
    Check.due("none of these changed it", x.put(0, 23, 5), 1);
    Check.due("missing, n -1", x.sheet(0, 0, -1), 1);
    Check.due("missing, n 99", x.sheet(1, 0, 99), 1);
    Check.due("is missing", x.put(0, 0, 5), Check.NONE);
    Check.due("is missing", x.judge(1), Check.NONE);
    Check.due("told(3)", x.told(3), 2);
    x = fresh();
    x.sheet(0, 8, 2);
    x.put(0, 1, 9);
    Check.due("number 1", number(x, 0, 1), 9);
    x.sheet(0, 8, 2);
    Check.due("all are 0 again", number(x, 0, 1), 0);
  }

  private static void put() {
    Check.about("33");
    ApronStrings x = fresh();
    Check.due("no sheet 4", x.put(4, 0, 1), Check.BEYOND);
    Check.due("no sheet -1", x.put(-1, 0, 1), Check.BEYOND);
    Check.due("missing, ahead of i", x.put(0, -1, 1), Check.NONE);
    x.sheet(0, 8, 2);
    x.sheet(1, 16, 24);
    x.sheet(2, 32, 1);
    Check.due("i 2", x.put(0, 2, 1), Check.BEYOND);
    Check.due("i -1", x.put(0, -1, 1), Check.BEYOND);
    Check.due("i 24", x.put(1, 24, 1), Check.BEYOND);
    Check.due("put", x.put(0, 1, 256 + 7), 1);
    Check.due("its lowest 8", number(x, 0, 1), 7);
    Check.due("put", x.put(1, 23, 256 + 7), 1);
    Check.due("256 more, of 16 bits", number(x, 1, 23), -1);
    x.put(1, 23, 0x7FFF0000 + 63);
    Check.due("its lowest 16", number(x, 1, 23), 63);
    x.put(2, 0, 65536 + 5);
    Check.due("65536 more, of 32 bits", number(x, 2, 0), -1);
    x.put(2, 0, 5);
    Check.due("of 32 bits", number(x, 2, 0), 5);
    x.put(0, 0, Integer.MIN_VALUE);
    Check.due("its lowest 8 are 0", number(x, 0, 0), 0);
    Check.due("the other one stays", number(x, 0, 1), 7);
  }

  private static void move() {
    Check.about("34");
    ApronStrings x = fresh();
    Check.due("no sheet 4", x.move(4, 0, 0, 0, 1), Check.BEYOND);
    Check.due("no sheet -1", x.move(0, 0, -1, 0, 1), Check.BEYOND);
    Check.due("missing", x.move(0, 0, 1, 0, -1), Check.NONE);
    x.sheet(0, 8, 6);
    Check.due("the other missing", x.move(0, 0, 1, 0, 1), Check.NONE);
    Check.due("the one missing", x.move(1, 0, 0, 0, 1), Check.NONE);
    x.sheet(1, 16, 6);
    Check.due("unlike bits, ahead of n", x.move(0, 0, 1, 0, -1), Check.KIND);
    x.sheet(1, 8, 4);
    int[][] wrong = {
      {0, 0, -1}, {-1, 0, 1}, {0, -1, 1}, {3, 0, 4}, {0, 3, 2}, {7, 0, 0}, {0, 5, 0}, {0, 0, 5},
      {Integer.MAX_VALUE, 0, 1}, {1, 1, Integer.MAX_VALUE}, {0, Integer.MAX_VALUE, 1}, {0, 0, Integer.MIN_VALUE}
    };
    for (int[] w : wrong) {
      String call = "move(0, " + w[0] + ", 1, " + w[1] + ", " + w[2] + ")";
      Check.due(call, x.move(0, w[0], 1, w[1], w[2]), Check.BEYOND);
    }
    for (int i = 0; i < 6; i++) x.put(0, i, 10 + i);
    Check.due("none, at the ends", x.move(0, 6, 1, 4, 0), 0);
    Check.due("three", x.move(0, 3, 1, 1, 3), 3);
    int[] want = {0, 13, 14, 15};
    for (int i = 0; i < 4; i++) Check.due("number " + i, number(x, 1, i), want[i]);
    Check.due("where they came from they stay", number(x, 0, 3), 13);
    Check.due("within one, upward", x.move(0, 0, 0, 1, 5), 5);
    int[] up = {10, 10, 11, 12, 13, 14};
    for (int i = 0; i < 6; i++) Check.due("number " + i, number(x, 0, i), up[i]);
    Check.due("within one, downward", x.move(0, 2, 0, 1, 4), 4);
    int[] down = {10, 11, 12, 13, 14, 14};
    for (int i = 0; i < 6; i++) Check.due("number " + i, number(x, 0, i), down[i]);
  }

  private static ApronStrings three() {
    ApronStrings x = new ApronStrings();
    x.one(0, -1, 10, 0);
    x.one(0, 0, 20, 3);
    x.one(0, 1, 30, 4);
    return x;
  }

  private static void reels() {
    Check.about("35");
    ApronStrings x = three();
    Check.due("no sheet 4", x.reels(4), Check.BEYOND);
    Check.due("no sheet -1", x.reels(-1), Check.BEYOND);
    Check.due("missing", x.reels(0), Check.NONE);
    x.sheet(0, 8, 24);
    x.put(0, 0, 50);
    x.put(0, 1, 99);
    x.put(0, 2, 0);
    Check.due("up to nobody", x.reels(0), 3);
    Check.due("who has none", x.oneIs(0, 5), 0);
    Check.due("spare of 1", x.oneIs(1, 5), 99);
    Check.due("spare of 2", x.oneIs(2, 5), 0);
    x.put(0, 1, 7);
    x.put(0, 2, 100);
    Check.due("up to 100", x.reels(0), 2);
    Check.due("spare of 1", x.oneIs(1, 5), 7);
    Check.due("spare of 2", x.oneIs(2, 5), 0);
    x.put(0, 0, -1);
    Check.due("the first counts, too", x.reels(0), 0);
    x.sheet(1, 32, 2);
    x.put(1, 1, -1);
    Check.due("below 0", x.reels(1), 1);
    x.put(1, 1, 8);
    Check.due("as many as it has", x.reels(1), 2);
    Check.due("spare of 1", x.oneIs(1, 5), 8);
    Check.due("out stays", x.oneIs(1, 4), 10);
    Check.due("no errors of these", x.told(1) + x.told(2), 3);
    x.sheet(2, 16, 0);
    Check.due("no numbers", x.reels(2), 0);
  }

  private static void judge() {
    Check.about("36");
    ApronStrings x = three();
    Check.due("no sheet 4", x.judge(4), Check.BEYOND);
    Check.due("no sheet -1", x.judge(-1), Check.BEYOND);
    Check.due("missing", x.judge(3), Check.NONE);
    x.sheet(3, 16, 24);
    Check.due("none right", x.judge(3), 0);
    x.put(3, 0, 10);
    x.put(3, 2, 30);
    Check.due("the first", x.judge(3), 1);
    x.put(3, 1, 20);
    Check.due("all three", x.judge(3), 3);
    x.put(3, 1, -20);
    Check.due("below 0", x.judge(3), 1);
    x.sheet(2, 8, 2);
    x.put(2, 0, 10);
    x.put(2, 1, 20);
    Check.due("as many as it has", x.judge(2), 2);
    x.sheet(2, 32, 0);
    Check.due("no numbers", x.judge(2), 0);
    x = new ApronStrings();
    x.one(0, -1, 0, 0);
    x.one(0, -1, 0, 0);
    x.sheet(2, 32, 1);
    Check.due("one number, two at 0", x.judge(2), 1);
    x = new ApronStrings();
    x.sheet(0, 8, 3);
    Check.due("nobody", x.judge(0), 0);
  }
}
