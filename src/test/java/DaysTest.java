/** Promises 14 to 17, and of Term 1 what a STEP and a DAY do. */
public final class DaysTest {
  private DaysTest() {}

  public static void main(String[] args) {
    comes();
    cuts();
    holds();
    gives();
    byTexts();
    onTheRoad();
    days();
    loose();
    dayAndSeed();
    Check.end("DaysTest");
  }

  /** One at 10 with a child of the plainest KIND at 10 that goes up 2 a day, first of all. */
  private static ApronStrings pair(int km, int spare) {
    ApronStrings x = Check.still();
    x.one(km, -1, 10, 0);
    x.one(0, 0, 10, spare);
    x.list(0, 1, 1);
    return x;
  }

  private static void is(ApronStrings x, int one, int mother, int cell, int out, int spare) {
    Check.due("mother of " + one, x.oneIs(one, 2), mother);
    Check.due("cell of " + one, x.oneIs(one, 3), cell);
    Check.due("out of " + one, x.oneIs(one, 4), out);
    Check.due("spare of " + one, x.oneIs(one, 5), spare);
  }

  private static void comes() {
    Check.about("14, comes");
    ApronStrings x = pair(0, 5);
    Check.due("days(1)", x.days(1), 0);
    is(x, 0, -1, 10, 0, 0);
    is(x, 1, 0, 12, 2, 3);
    x = pair(0, 1);
    x.days(1);
    is(x, 0, -1, 11, 0, 0);
    is(x, 1, 0, 12, 1, 0);
    x = pair(0, 1);
    x.list(0, 1, 0);
    x.days(1);
    is(x, 0, -1, 9, 0, 0);
    is(x, 1, 0, 8, 1, 0);
    // A child comes behind its mother, and a row of them behind one another.
    x = Check.still();
    x.one(0, -1, 10, 0);
    x.one(0, 0, 9, 0);
    x.one(0, 1, 7, 1);
    x.one(0, 0, 12, 0);
    x.list(0, 0, 1);
    x.days(1);
    is(x, 0, -1, 12, 0, 0);
    is(x, 1, 0, 11, 1, 0);
    is(x, 2, 1, 8, 3, 0);
    is(x, 3, 0, 12, 2, 0);
  }

  private static void cuts() {
    Check.about("14, cuts");
    ApronStrings x = pair(10, 1);
    Check.due("days(1)", x.days(1), 1);
    is(x, 0, -1, 10, 0, 0);
    is(x, 1, -1, 12, 0, 0);
    Check.due("cuts", x.count(2), 1);
    // The arctic one comes while it has a child; the one that it has is the one that pulls.
    x = pair(49, 0);
    Check.due("days(1)", x.days(1), 0);
    is(x, 0, -1, 12, 0, 0);
    is(x, 1, 0, 12, 0, 0);
    // Pulled as a child it has none, and cuts.
    x = pair(0, 0);
    x.become(1, 49);
    x.list(0, 0, 1);
    Check.due("days(1)", x.days(1), 1);
    is(x, 0, -1, 12, 0, 0);
    is(x, 1, -1, 10, 0, 0);
    // The copper by the day: 0 comes, 1 cuts, 2 holds, 3 gives (nothing of its own: comes).
    int[] cells = {12, 10, 10, 12};
    int[] stands = {12, 12, 10, 12};
    int[] cut = {0, 1, 0, 0};
    for (int m = 0; m < 4; m++) {
      x = pair(60 + m, 0);
      Check.due("days(1) by a copper of " + m, x.days(1), cut[m]);
      Check.due("its cell", x.oneIs(0, 3), cells[m]);
      Check.due("the child's", x.oneIs(1, 3), stands[m]);
      x = pair(60, 0);
      x.day(24 + 6 * m);
      Check.due("days(1) by a copper on day " + (24 + 6 * m), x.days(1), cut[(24 + 6 * m) % 4]);
      Check.due("its cell", x.oneIs(0, 3), cells[(24 + 6 * m) % 4]);
    }
  }

  private static void holds() {
    Check.about("14, holds");
    ApronStrings x = pair(30, 1);
    Check.due("days(1)", x.days(1), 0);
    is(x, 0, -1, 10, 0, 0);
    is(x, 1, 0, 11, 1, 0);
    Check.due("the day is over all the same", x.count(1), 1);
    // What was let out, cut and gone in the same step is undone with it.
    x = Check.still();
    x.one(0, -1, 10, 0);
    x.one(0, 0, 10, 1);
    x.one(10, 0, 10, 0);
    x.one(0, 0, 10, 0);
    x.one(30, 0, 10, 0);
    x.list(0, 0, 1);
    Check.due("days(1)", x.days(1), 0);
    is(x, 0, -1, 10, 0, 0);
    is(x, 1, 0, 10, 0, 1);
    is(x, 2, 0, 10, 0, 0);
    is(x, 3, 0, 10, 0, 0);
    is(x, 4, 0, 10, 0, 0);
    // Without her: one let out, one cut, one come.
    x.cut(4);
    Check.due("days(7)", x.days(7), 1);
    is(x, 0, -1, 12, 0, 0);
    is(x, 1, 0, 11, 1, 0);
    is(x, 2, -1, 10, 0, 0);
    is(x, 3, 0, 12, 0, 0);
    Check.due("cuts", x.count(2), 1);
    x.one(30, 0, 12, 0);
    x.days(6);
    Check.due("held again", x.oneIs(0, 3), 12);
    Check.due("cuts ahead of the step stay", x.count(2), 1);
    // By the text she holds on day 6, but comes on day 24, whose rest by 8 is 0.
    x = pair(30, 0);
    Check.text(x, 0, "y*(d>0)");
    x.day(6);
    x.days(1);
    is(x, 1, 0, 10, 0, 0);
    x.day(24);
    x.days(1);
    is(x, 0, -1, 12, 0, 0);
    is(x, 1, 0, 12, 0, 0);
  }

  private static void gives() {
    Check.about("14, gives");
    ApronStrings x = Check.still();
    x.one(0, -1, 10, 0);
    x.one(20, 0, 10, 3);
    x.one(0, 1, 10, 0);
    x.list(0, 2, 1);
    Check.due("days(1)", x.days(1), 0);
    is(x, 0, -1, 10, 0, 0);
    is(x, 1, 0, 10, 0, 1);
    is(x, 2, 1, 12, 2, 0);
    // Her last is given, and from there on she comes; hers is too short then, and the first one comes.
    x.days(6);
    is(x, 0, -1, 11, 0, 0);
    is(x, 1, 0, 11, 0, 0);
    is(x, 2, 1, 14, 3, 0);
    // A boy gives as a clerk if m is above 4, and holds if not.
    x = Check.still();
    x.one(0, -1, 10, 0);
    x.one(55, 0, 10, 1);
    x.one(0, 1, 10, 0);
    x.list(0, 2, 0);
    x.days(1);
    is(x, 0, -1, 9, 0, 0);
    is(x, 1, 0, 9, 0, 0);
    is(x, 2, 1, 8, 1, 0);
    x.become(1, 54);
    x.days(6);
    is(x, 2, 1, 8, 1, 0);
    // Who gives, but is the child, comes; who gives, but has no string, comes.
    x = pair(0, 0);
    Check.text(x, 0, "3");
    x.list(0, 0, 1);
    x.list(1, 1, 1);
    x.days(1);
    is(x, 1, 0, 12, 0, 0);
    x.days(1);
    is(x, 0, -1, 14, 0, 0);
    // A child's own string never is what it gives of: the pulled end is the child, whose own child has some.
    x = Check.still();
    x.one(0, -1, 10, 0);
    x.one(0, 0, 10, 0);
    x.one(0, 1, 10, 4);
    Check.text(x, 0, "3");
    x.list(0, 0, 1);
    x.days(1);
    is(x, 1, 0, 12, 0, 0);
    is(x, 2, 1, 10, 2, 2);
  }

  private static void byTexts() {
    Check.about("14, by texts");
    // What one does is found out as it is pulled: her string is let out by then.
    ApronStrings x = Check.still();
    x.one(0, -1, 10, 0);
    x.one(30, 0, 10, 2);
    x.one(0, 1, 10, 0);
    x.list(0, 2, 1);
    Check.text(x, 0, "3*(s>1)+(s<1)");
    Check.text(x, 1, "s");
    Check.due("days(1)", x.days(1), 0);
    is(x, 1, 0, 11, 1, 0);
    is(x, 2, 1, 12, 1, 0);
    // With nothing left she cuts.
    Check.due("days(6)", x.days(6), 1);
    is(x, 2, -1, 14, 0, 0);
    // How far one goes is found out ahead of its steps: its string is out farther behind the first one.
    x = pair(0, 9);
    Check.text(x, 1, "o+1");
    x.days(1);
    is(x, 1, 0, 11, 1, 8);
    x.days(6);
    is(x, 1, 0, 13, 3, 6);
    Check.text(x, 1, "d");
    x.day(12);
    x.days(1);
    is(x, 1, 0, 17, 7, 2);
    Check.text(x, 1, "0");
    x.day(0);
    x.days(1);
    is(x, 1, 0, 17, 7, 2);
  }

  private static void onTheRoad() {
    Check.about("14, on the road");
    ApronStrings x = Check.still();
    x.one(57, -1, 61, 0);
    x.list(0, 0, 1);
    x.list(1, 0, 0);
    x.days(1);
    Check.due("stays at the end", x.oneIs(0, 3), 63);
    x.days(1);
    Check.due("goes back", x.oneIs(0, 3), 59);
    x = Check.still();
    x.one(57, -1, 2, 0);
    x.list(0, 0, 0);
    x.days(7);
    Check.due("stays at the beginning", x.oneIs(0, 3), 0);
    // By the place of the day, and by nobody where the one is not there.
    x = new ApronStrings();
    x.one(0, -1, 10, 0);
    x.one(0, -1, 20, 0);
    x.list(3, 1, 0);
    x.list(5, 0, 0);
    int[] first = {12, 12, 12, 12, 12, 10, 12};
    int[] second = {20, 22, 22, 20, 20, 20, 20};
    for (int i = 0; i < 7; i++) {
      x.days(1);
      Check.due("first one, behind day " + i, x.oneIs(0, 3), first[i]);
      Check.due("second one, behind day " + i, x.oneIs(1, 3), second[i]);
    }
  }

  private static void days() {
    Check.about("14");
    ApronStrings x = pair(10, 0);
    Check.due("days(0)", x.days(0), Check.BEYOND);
    Check.due("days(61)", x.days(61), Check.BEYOND);
    Check.due("days(-1)", x.days(-1), Check.BEYOND);
    Check.due("days(60)", x.days(60), 1);
    Check.due("day", x.count(1), 60);
    Check.due("cell", x.oneIs(1, 3), 30);
    x.day(9940);
    Check.due("days(60)", x.days(60), Check.STATE);
    Check.due("days(61)", x.days(61), Check.BEYOND);
    Check.due("day", x.count(1), 9940);
    Check.due("days(59)", x.days(59), 1);
    Check.due("day", x.count(1), 9999);
    Check.due("days(1)", x.days(1), Check.STATE);
    Check.due("told(3)", x.told(3), 2);
  }

  private static void loose() {
    Check.about("15");
    ApronStrings x = new ApronStrings();
    Check.due("loose(0)", x.loose(0), Check.BEYOND);
    Check.due("loose(31)", x.loose(31), Check.BEYOND);
    Check.due("no draw yet", x.count(9), 1);
    x.one(10, -1, 10, 0);
    for (int i = 1; i < 8; i++) x.one(0, 0, 10, 0);
    // 1103527590 >>> 8 is 4310654, its rest by 8 is 6; (2524885223) >>> 8 is 9862832, even.
    Check.due("loose(1)", x.loose(1), 1);
    Check.due("listed(0)", x.listed(0), 60);
    Check.due("z", x.count(9), -1770082073);
    Check.due("cell of 6", x.oneIs(6, 3), 8);
    Check.due("its string", x.oneIs(6, 2), -1);
    Check.due("day", x.count(1), 1);
    // 662824084 >>> 8 is 2589156, 4; 3295386010 >>> 8 is 12872601, 1.
    Check.due("loose(1)", x.loose(1), 2);
    Check.due("listed(1)", x.listed(1), 41);
    Check.due("cell of 4", x.oneIs(4, 3), 12);
    Check.due("the other places stay", x.listed(2), 21);
    ApronStrings y = new ApronStrings();
    y.loose(8);
    Check.due("z behind 16 draws", y.count(9), draws(1, 16));
    y.day(9990);
    Check.due("loose(10)", y.loose(10), Check.STATE);
    Check.due("loose(31)", y.loose(31), Check.BEYOND);
    Check.due("no draw then", y.count(9), draws(1, 16));
    Check.due("loose(9)", y.loose(9), 0);
    Check.due("day", y.count(1), 9999);
    Check.due("loose(1)", y.loose(1), Check.STATE);
    y.day(0);
    Check.due("loose(30)", y.loose(30), 0);
    Check.due("z", y.count(9), draws(1, 94));
  }

  private static int draws(int z, int n) {
    for (int i = 0; i < n; i++) z = z * 1103515245 + 12345;
    return z;
  }

  private static void dayAndSeed() {
    Check.about("16");
    ApronStrings x = new ApronStrings();
    Check.due("day(9999)", x.day(9999), 0);
    Check.due("day(5)", x.day(5), 9999);
    Check.due("day(10000)", x.day(10000), Check.BEYOND);
    Check.due("day(-1)", x.day(-1), Check.BEYOND);
    Check.due("count(1)", x.count(1), 5);
    Check.about("17");
    Check.due("seed", x.seed(Integer.MIN_VALUE), 1);
    Check.due("seed", x.seed(Check.BEYOND), Integer.MIN_VALUE);
    Check.due("seed", x.seed(0), Check.BEYOND);
    Check.due("a number alone is no error", x.told(1), 2);
    x.loose(1);
    Check.due("z", x.count(9), draws(0, 2));
    // 12345 >>> 8 is 48.
    Check.due("listed(5)", x.listed(5) / 10, 0);
  }
}
