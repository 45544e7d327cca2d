/** Promises 39 to 42, and that an act that answers an ERROR changes nothing but what told() tells. */
public final class ToldTest {
  private ToldTest() {}

  public static void main(String[] args) {
    tell();
    check();
    count();
    told();
    nothingElse();
    nothingButTheTrace();
    Check.end("ToldTest");
  }

  private static void tell() {
    Check.about("39");
    ApronStrings x = new ApronStrings();
    for (int i = 1; i <= 24; i++) Check.due("tell " + i, x.tell(-i), i);
    Check.due("a 25th", x.tell(0), Check.FULL);
    Check.due("count(7)", x.count(7), 24);
    x.check();
    Check.due("the first again", x.tell(0), 1);
    Check.due("told(4)", x.told(4), 1);
  }

  private static void check() {
    Check.about("40");
    ApronStrings x = new ApronStrings();
    Check.due("none, of nobody", x.check(), 0);
    x.tell(0);
    Check.due("one, of nobody", x.check(), 1);
    x.one(0, -1, 5, 0);
    x.one(53, 0, 15, 0);
    x.one(10, 0, 15, 0);
    Check.due("none", x.check(), 0);
    checked(x, 0, 2);
    checked(x, 0, 2, 4);
    checked(x, 0, 2, 4, 2);
    checked(x, 4, 2, 4, 2, 0);
    checked(x, 3, 2, 4, 3);
    checked(x, 2, 2, 3, 3);
    checked(x, 1, 1, 3, 3);
    checked(x, 1, Integer.MIN_VALUE);
    x.day(3);
    checked(x, 0, 2, 4, 3);
    Check.text(x, 1, "o");
    checked(x, 0, 0, 9, 9);
    checked(x, 2, 0, 10, 9);
  }

  private static void checked(ApronStrings x, int want, int... numbers) {
    for (int v : numbers) x.tell(v);
    Check.due("check of " + java.util.Arrays.toString(numbers), x.check(), want);
    Check.due("none wait then", x.count(7), 0);
  }

  private static void count() {
    Check.about("41");
    ApronStrings x = new ApronStrings();
    x.one(0, -1, 5, 9);
    x.one(10, 0, 15, 8);
    x.one(10, 1, 12, 4);
    x.one(10, -1, 12, 4);
    x.one(30, 0, 5, 1);
    x.feed(0, 3);
    x.tell(1);
    x.tell(1);
    x.day(12);
    x.voice(0, 1, 0);
    int[] counts = {5, 12, 0, 22, 13, 13, 3, 2, 2, 1};
    for (int what = 0; what < 10; what++) Check.due("count " + what, x.count(what), counts[what]);
    Check.due("count(10)", x.count(10), Check.BEYOND);
    Check.due("count(-1)", x.count(-1), Check.BEYOND);
    x.seed(Check.NONE);
    Check.due("count(9)", x.count(9), Check.NONE);
    Check.due("a number alone is no error", x.told(2), 0);
    // The bride holds 1 and cuts what has nothing to spare: 1 walks from her child, which is a bride, too.
    x.list(0, 1, 1);
    x.reel(2, 0);
    x.days(1);
    Check.due("cuts", x.count(2), 1);
    Check.due("strings", x.count(3), 18);
    Check.due("out", x.count(4), 12);
    Check.due("spare", x.count(5), 7);
  }

  private static void told() {
    Check.about("42");
    ApronStrings x = new ApronStrings();
    Check.due("told(0)", x.told(0), Check.BEYOND);
    Check.due("told(7)", x.told(7), Check.BEYOND);
    Check.due("told(-1)", x.told(-1), Check.BEYOND);
    Check.due("told(1), counted too", x.told(1), 3);
    x.restore();
    x.body(0);
    x.sheet(0, 8, -1);
    x.one(0, -1, 5, 0);
    x.cut(0);
    x.reel(0, 1);
    for (int i = 0; i < 30; i++) x.tell(0);
    x.as(0, 1);
    x.voice(0, 3, 1);
    int[] want = {0, 3, 2, 3, 6, 1, 1};
    for (int k = 1; k <= 6; k++) Check.due("told " + k, x.told(k), want[k]);
  }

  private static ApronStrings full() {
    ApronStrings x = new ApronStrings();
    x.one(4, -1, 30, 9);
    x.one(13, 0, 33, 2);
    x.one(25, 0, 28, 1);
    x.one(33, 2, 25, 0);
    x.one(47, 1, 40, 3);
    x.one(58, 2, 20, 0);
    x.one(61, 5, 18, 4);
    x.one(7, -1, 63, 0);
    Check.text(x, 0, "y+d");
    Check.text(x, 1, "s+1");
    for (int i = 0; i < 7; i++) x.feed(0x2B2B2B2B2B2B2B31L, 8);
    for (int i = 0; i < 24; i++) x.tell(i);
    x.sheet(0, 8, 3);
    x.sheet(1, 16, 3);
    x.put(0, 0, 30);
    x.put(0, 1, 33);
    x.voice(4, 2, 9);
    x.day(9990);
    x.seed(5);
    return x;
  }

  private static int[] errors(ApronStrings x) {
    int any = Integer.MIN_VALUE;
    return new int[] {
      x.one(70, 0, 5, 5), x.one(5, 8, 5, 5), x.one(5, 0, 5, 5), x.oneIs(8, 0), x.oneIs(0, 9), x.become(0, 70),
      x.become(8, 5), x.as(0, 1), x.as(0, 7), x.as(8, 0), x.reel(0, 5), x.reel(1, 100), x.reel(8, 5), x.cut(0),
      x.cut(8), x.list(0, 8, 0), x.list(6, 0, 0), x.list(0, 0, 2), x.listed(6), x.feed(1, 0), x.feed(1, 9),
      x.feed(1, 5), x.text(2), x.untell(2), x.law(2, 0, 0, 0), x.days(10), x.days(61), x.loose(10), x.loose(31),
      x.day(10000), x.line(8), x.between(0, 7), x.between(8, 0), x.over(64), x.knot(2), x.then(8, 0),
      x.then(0, 61), x.strings(61), x.soonest(8, 0), x.soonest(0, 64), x.soonest(3, 63), x.spareFor(8, 0),
      x.spareFor(0, 41), x.spareFor(0, 4), x.freeFor(8, 0), x.freeFor(0, 41), x.odds(8, 0, 0), x.odds(1, 41, 0),
      x.odds(1, 0, 2), x.odds(0, 0, 0), x.fits(4, 0, 0), x.fits(0, 8, 0), x.fits(0, 0, 2), x.fits(2, 0, 0),
      x.voice(8, 0, 0), x.voice(0, 4, 0), x.body(6), x.body(any), x.sheet(4, 8, 1),
      x.sheet(0, 9, 1), x.sheet(0, 8, -1), x.sheet(0, 8, 25), x.put(4, 0, 0), x.put(2, 0, 0), x.put(0, 3, 0),
      x.move(4, 0, 0, 0, 0), x.move(0, 0, 2, 0, 0), x.move(0, 0, 1, 0, 0), x.move(0, 0, 0, 1, 3), x.reels(4),
      x.reels(2), x.judge(4), x.judge(2), x.restore(), x.tell(0), x.count(10), x.told(7), x.oneIs(any, any),
      x.move(any, any, any, any, any), x.voice(any, any, any), x.fits(any, any, any), x.list(any, any, any),
    };
  }

  private static void nothingElse() {
    Check.about("errors change nothing");
    ApronStrings x = full();
    ApronStrings y = full();
    int[] told = new int[7];
    for (int answer : errors(x)) {
      boolean error = answer < Check.LOW && answer > Check.PARTED;
      Check.due("an error", error ? 1 : 0, 1);
      if (error) told[Check.LOW - answer]++;
    }
    for (int k = 1; k <= 6; k++) Check.due("told " + k, x.told(k), told[k]);
    asOneAnother(x, y);
  }

  private static void nothingButTheTrace() {
    Check.about("PARTED changes nothing but THE TRACE");
    ApronStrings x = full();
    ApronStrings y = full();
    Check.due("voice(7, 3, 0)", x.voice(7, 3, 0), Check.PARTED);
    Check.due("a voice with the same BODIES", y.voice(0, 3, 9), 2);
    for (int k = 1; k <= 6; k++) Check.due("told " + k, x.told(k), k == 6 ? 1 : 0);
    asOneAnother(x, y);
  }

  private static void asOneAnother(ApronStrings x, ApronStrings y) {
    for (int one = 0; one < 8; one++) {
      for (int what = 0; what < 9; what++) Check.due("oneIs", x.oneIs(one, what), y.oneIs(one, what));
    }
    for (int what = 0; what < 10; what++) Check.due("count " + what, x.count(what), y.count(what));
    for (int place = 0; place < 6; place++) Check.due("listed", x.listed(place), y.listed(place));
    for (int i = 0; i < 6; i++) Check.due("body", x.body(i), y.body(i));
    for (int a = -3; a < 9; a++) {
      Check.due("law(0)", x.law(0, a, 1, 2), y.law(0, a, 1, 2));
      Check.due("law(1)", x.law(1, a, 1, 2), y.law(1, a, 1, 2));
    }
    Check.due("judge(0)", x.judge(0), 2);
    Check.due("put(1, 2, 0)", x.put(1, 2, 0), 1);
    Check.due("check()", x.check(), y.check());
    Check.due("text(1)", x.text(1), y.text(1));
    Check.due("loose(9)", x.loose(9), y.loose(9));
    Check.due("image()", x.image(), 1);
  }
}
