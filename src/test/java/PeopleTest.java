/** Promises 1 to 9, and of the Terms the YIELDS, STEPS and how a STRING begins. */
public final class PeopleTest {
  private PeopleTest() {}

  public static void main(String[] args) {
    newObject();
    one();
    oneIs();
    kinds();
    become();
    as();
    reelAndCut();
    list();
    Check.end("PeopleTest");
  }

  private static void newObject() {
    Check.about("1");
    ApronStrings x = new ApronStrings();
    for (int what = 0; what < 9; what++) Check.due("count " + what, x.count(what), 0);
    Check.due("count(9)", x.count(9), 1);
    for (int place = 0; place < 6; place++) Check.due("listed " + place, x.listed(place), 10 * place + 1);
    for (int k = 1; k <= 6; k++) Check.due("told " + k, x.told(k), 0);
    Check.due("untell(0)", x.untell(0), 0);
    Check.due("untell(1)", x.untell(1), 0);
    Check.due("check()", x.check(), 0);
    Check.due("crossings()", x.crossings(), 0);
    Check.due("oneIs(0, 0)", x.oneIs(0, 0), Check.BEYOND);
    Check.due("body(0)", x.body(0), Check.NONE);
    Check.due("restore()", x.restore(), Check.NONE);
    for (int sheet = 0; sheet < 4; sheet++) Check.due("judge " + sheet, x.judge(sheet), Check.NONE);
    ApronStrings other = new ApronStrings();
    other.one(0, -1, 5, 0);
    other.list(0, 3, 0);
    Check.due("count(0) beside another", x.count(0), 0);
    Check.due("listed(0) beside another", x.listed(0), 1);
  }

  private static void one() {
    Check.about("2");
    ApronStrings x = new ApronStrings();
    Check.due("of a mother not there", x.one(0, 0, 5, 5), Check.BEYOND);
    Check.due("first", x.one(69, -1, 63, 99), 0);
    Check.due("km -1", x.one(-1, -1, 5, 5), Check.BEYOND);
    Check.due("km 70", x.one(70, -1, 5, 5), Check.BEYOND);
    Check.due("mother -2", x.one(0, -2, 5, 5), Check.BEYOND);
    Check.due("its own mother", x.one(0, 1, 5, 5), Check.BEYOND);
    Check.due("cell -1", x.one(0, 0, -1, 5), Check.BEYOND);
    Check.due("cell 64", x.one(0, 0, 64, 5), Check.BEYOND);
    Check.due("spare -1", x.one(0, 0, 5, -1), Check.BEYOND);
    Check.due("spare 100", x.one(0, -1, 5, 100), Check.BEYOND);
    Check.due("count(0)", x.count(0), 1);
    Check.due("second", x.one(0, 0, 0, 99), 1);
    Check.due("out", x.oneIs(1, 4), 63);
    Check.due("spare", x.oneIs(1, 5), 99);
    for (int i = 2; i < 8; i++) Check.due("number " + i, x.one(10 * (i - 1), i - 1, 10 * i % 64, i), i);
    Check.due("a ninth, wrongly", x.one(0, 8, 5, 5), Check.BEYOND);
    Check.due("a ninth", x.one(0, 7, 5, 5), Check.FULL);
    Check.due("a ninth without", x.one(0, -1, 5, 5), Check.FULL);
    Check.due("count(0)", x.count(0), 8);
    Check.due("told(1)", x.told(1), 10);
    Check.due("told(4)", x.told(4), 2);
  }

  private static void oneIs() {
    Check.about("3");
    ApronStrings x = new ApronStrings();
    x.one(4, -1, 30, 9);
    x.one(25, 0, 21, 7);
    int[] first = {0, 4, -1, 30, 0, 0, 0, 0, 2};
    int[] second = {2, 5, 0, 21, 9, 7, 9, 3, 1};
    for (int what = 0; what < 9; what++) {
      Check.due("oneIs(0, " + what + ")", x.oneIs(0, what), first[what]);
      Check.due("oneIs(1, " + what + ")", x.oneIs(1, what), second[what]);
    }
    Check.due("nobody", x.oneIs(2, 0), Check.BEYOND);
    Check.due("one -1", x.oneIs(-1, 0), Check.BEYOND);
    Check.due("what -1", x.oneIs(0, -1), Check.BEYOND);
    Check.due("what 9", x.oneIs(0, 9), Check.BEYOND);
    // Closer together than it is OUT: the ends' distance is told apart from OUT.
    x.list(0, 0, 0);
    x.days(1);
    Check.due("out stays", x.oneIs(1, 4), 9);
    Check.due("apart is less", x.oneIs(1, 6), 7);
    Check.text(x, 0, "s+d");
    Check.text(x, 1, "o-d");
    Check.due("does by a text", x.oneIs(1, 7), 0);
    Check.due("goes by a text", x.oneIs(1, 8), 8);
    x.day(8 + 3);
    Check.due("d is a rest", x.oneIs(1, 7), 2);
    Check.due("d is a rest", x.oneIs(1, 8), 6);
    Check.due("s and o of one without a string", x.oneIs(0, 7), 3);
    Check.due("held from below", x.oneIs(0, 8), 0);
  }

  private static void kindsAt(int day, int m, int[] does, int[] goes) {
    for (int kind = 0; kind < 7; kind++) {
      ApronStrings x = new ApronStrings();
      x.one(10 * kind + m, -1, 5, 0);
      x.day(day);
      Check.due("does of " + kind + ", m " + m + ", day " + day, x.oneIs(0, 7), does[kind]);
      Check.due("goes of " + kind + ", m " + m + ", day " + day, x.oneIs(0, 8), goes[kind]);
    }
  }

  private static void kinds() {
    Check.about("3, yields and steps");
    kindsAt(0, 0, new int[] {0, 1, 0, 2, 1, 2, 0}, new int[] {2, 2, 1, 0, 2, 4, 1});
    kindsAt(1, 4, new int[] {0, 1, 0, 2, 1, 2, 1}, new int[] {2, 3, 1, 0, 7, 4, 1});
    kindsAt(2, 5, new int[] {0, 1, 0, 2, 1, 0, 3}, new int[] {2, 2, 1, 1, 7, 4, 1});
    kindsAt(9999, 9, new int[] {0, 1, 0, 2, 1, 0, 0}, new int[] {2, 3, 1, 1, 9, 4, 1});
    ApronStrings x = new ApronStrings();
    x.one(0, -1, 5, 0);
    x.one(45, 0, 5, 3);
    Check.due("arctic without children", x.oneIs(1, 7), 1);
    x.one(54, 1, 5, 3);
    Check.due("arctic with a child", x.oneIs(1, 7), 0);
    Check.due("boy with m 4 and string to spare", x.oneIs(2, 7), 2);
    x.become(2, 55);
    Check.due("boy with m 5 and string to spare", x.oneIs(2, 7), 3);
    x.reel(2, 0);
    Check.due("boy with m 5 and none to spare", x.oneIs(2, 7), 0);
    x.become(2, 20);
    Check.due("clerk with none to spare", x.oneIs(2, 7), 0);
    x.reel(2, 1);
    Check.due("clerk with one to spare", x.oneIs(2, 7), 3);
    x.cut(2);
    Check.due("arctic whose child is gone", x.oneIs(1, 7), 1);
    Check.due("clerk without a string", x.oneIs(2, 7), 0);
  }

  private static void become() {
    Check.about("4");
    ApronStrings x = new ApronStrings();
    x.one(17, -1, 5, 0);
    x.one(23, 0, 9, 6);
    Check.due("become(1, 69)", x.become(1, 69), 2);
    Check.due("kind", x.oneIs(1, 0), 6);
    Check.due("m", x.oneIs(1, 1), 9);
    Check.due("its string stays", x.oneIs(1, 4), 4);
    Check.due("its spare stays", x.oneIs(1, 5), 6);
    Check.due("become(1, 0)", x.become(1, 0), 6);
    Check.due("the other one stays", x.oneIs(0, 0), 1);
    Check.due("km 70", x.become(0, 70), Check.BEYOND);
    Check.due("km -1", x.become(0, -1), Check.BEYOND);
    Check.due("nobody", x.become(2, 5), Check.BEYOND);
    Check.due("one -1", x.become(-1, 5), Check.BEYOND);
  }

  private static void as() {
    Check.about("5");
    int[] under = {1, 3, 5, 9, 19, 37, 65};
    for (int kind = 0; kind < 7; kind++) {
      ApronStrings x = new ApronStrings();
      x.one(10 * kind + 3, -1, 5, 0);
      for (int as = 0; as < 7; as++) {
        int want = (under[kind] >> as & 1) != 0 ? 3 : Check.KIND;
        Check.due("one of " + kind + " as " + as, x.as(0, as), want);
      }
      Check.due("kind 7", x.as(0, 7), Check.BEYOND);
      Check.due("kind -1", x.as(0, -1), Check.BEYOND);
      Check.due("nobody", x.as(1, 0), Check.BEYOND);
      Check.due("told(5)", x.told(5), 7 - Integer.bitCount(under[kind]));
    }
  }

  private static void reelAndCut() {
    Check.about("6");
    ApronStrings x = new ApronStrings();
    x.one(0, -1, 5, 0);
    x.one(10, 0, 15, 8);
    x.one(10, 1, 12, 4);
    Check.due("reel(1, 99)", x.reel(1, 99), 8);
    Check.due("reel(1, 0)", x.reel(1, 0), 99);
    Check.due("spare", x.oneIs(1, 5), 0);
    Check.due("reel(1, 100)", x.reel(1, 100), Check.BEYOND);
    Check.due("reel(1, -1)", x.reel(1, -1), Check.BEYOND);
    Check.due("reel(0, 100)", x.reel(0, 100), Check.BEYOND);
    Check.due("reel(0, 5)", x.reel(0, 5), Check.STATE);
    Check.due("reel(3, 5)", x.reel(3, 5), Check.BEYOND);
    Check.due("spare of who has none", x.oneIs(0, 5), 0);
    Check.about("7");
    x.reel(1, 7);
    Check.due("cut(0)", x.cut(0), Check.STATE);
    Check.due("cut(3)", x.cut(3), Check.BEYOND);
    Check.due("cut(-1)", x.cut(-1), Check.BEYOND);
    Check.due("cut(2)", x.cut(2), 1);
    Check.due("cut(1)", x.cut(1), 0);
    Check.due("cut(1) again", x.cut(1), Check.STATE);
    Check.due("mother", x.oneIs(1, 2), -1);
    Check.due("out", x.oneIs(1, 4), 0);
    Check.due("spare", x.oneIs(1, 5), 0);
    Check.due("apart", x.oneIs(1, 6), 0);
    Check.due("cuts stay", x.count(2), 0);
    Check.due("reel(1, 1)", x.reel(1, 1), Check.STATE);
  }

  private static void list() {
    Check.about("8");
    ApronStrings x = new ApronStrings();
    Check.due("list(5, 7, 0)", x.list(5, 7, 0), 51);
    Check.due("list(5, 0, 1)", x.list(5, 0, 1), 70);
    Check.due("list(0, 0, 0)", x.list(0, 0, 0), 1);
    Check.due("place 6", x.list(6, 0, 0), Check.BEYOND);
    Check.due("place -1", x.list(-1, 0, 0), Check.BEYOND);
    Check.due("one 8", x.list(1, 8, 0), Check.BEYOND);
    Check.due("one -1", x.list(1, -1, 0), Check.BEYOND);
    Check.due("way 2", x.list(1, 0, 2), Check.BEYOND);
    Check.due("way -1", x.list(1, 0, -1), Check.BEYOND);
    Check.about("9");
    Check.due("listed(5)", x.listed(5), 1);
    Check.due("listed(0)", x.listed(0), 0);
    Check.due("listed(1)", x.listed(1), 11);
    Check.due("listed(6)", x.listed(6), Check.BEYOND);
    Check.due("listed(-1)", x.listed(-1), Check.BEYOND);
  }
}
