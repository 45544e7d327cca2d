/** Promises 23 to 29. */
public final class WouldBeTest {
  private WouldBeTest() {}

  public static void main(String[] args) {
    thenAndStrings();
    soonest();
    spareForAndOdds();
    spareByLess();
    spareForNone();
    spareForMost();
    freeFor();
    fits();
    onlyThought();
    Check.end("WouldBeTest");
  }

  /** One of a KIND at 10, and her child at 10 that goes up 2 on every sixth day. */
  private static ApronStrings pair(int km) {
    ApronStrings x = Check.still();
    x.one(km, -1, 10, 0);
    x.one(0, 0, 10, 0);
    x.list(0, 1, 1);
    return x;
  }

  private static void thenAndStrings() {
    Check.about("23");
    ApronStrings x = pair(10);
    int[] ns = {0, 1, 6, 7, 12, 13, 60};
    int[] cells = {10, 12, 12, 14, 14, 16, 30};
    for (int i = 0; i < ns.length; i++) Check.due("then(1, " + ns[i] + ")", x.then(1, ns[i]), cells[i]);
    Check.due("then(0, 60)", x.then(0, 60), 10);
    Check.due("n 61", x.then(1, 61), Check.BEYOND);
    Check.due("n -1", x.then(1, -1), Check.BEYOND);
    Check.due("nobody", x.then(2, 0), Check.BEYOND);
    x.day(9999);
    x.list(3, 1, 0);
    Check.due("day 9999 is of place 3", x.then(1, 1), 8);
    Check.due("day 10002 is of place 0", x.then(1, 3), 8);
    Check.due("day 10002 is of place 0", x.then(1, 4), 10);
    Check.due("as far as that", x.then(1, 60), 10);
    Check.due("day", x.count(1), 9999);
    Check.about("24");
    x = pair(10);
    x.one(0, 0, 10, 5);
    Check.due("strings(0)", x.strings(0), 6);
    Check.due("strings(1)", x.strings(1), 4);
    Check.due("strings(60)", x.strings(60), 4);
    Check.due("n 61", x.strings(61), Check.BEYOND);
    Check.due("n -1", x.strings(-1), Check.BEYOND);
  }

  private static void soonest() {
    Check.about("25");
    ApronStrings x = pair(10);
    Check.due("where it is", x.soonest(1, 10), 0);
    Check.due("behind a day", x.soonest(1, 12), 1);
    Check.due("only gone over", x.soonest(1, 11), Check.NONE);
    Check.due("later", x.soonest(1, 14), 7);
    Check.due("behind 55", x.soonest(1, 30), 55);
    Check.due("behind 61", x.soonest(1, 32), Check.NONE);
    x.day(1);
    Check.due("behind 60", x.soonest(1, 30), 60);
    Check.due("cell 64", x.soonest(1, 64), Check.BEYOND);
    Check.due("cell -1", x.soonest(1, -1), Check.BEYOND);
    Check.due("nobody", x.soonest(2, 10), Check.BEYOND);
    Check.due("told(2)", x.told(2), 2);
  }

  private static void spareForAndOdds() {
    Check.about("26");
    ApronStrings x = pair(10);
    x.reel(1, 50);
    int[] ns = {0, 1, 6, 7, 36, 37, 40};
    int[] spares = {0, 2, 2, 4, 12, 14, 14};
    for (int i = 0; i < ns.length; i++) Check.due("spareFor(1, " + ns[i] + ")", x.spareFor(1, ns[i]), spares[i]);
    Check.due("what it has stays", x.oneIs(1, 5), 50);
    Check.due("n 41", x.spareFor(1, 41), Check.BEYOND);
    Check.due("n -1", x.spareFor(1, -1), Check.BEYOND);
    Check.due("nobody", x.spareFor(2, 5), Check.BEYOND);
    Check.due("no string, n 41", x.spareFor(0, 41), Check.BEYOND);
    Check.due("no string", x.spareFor(0, 5), Check.STATE);
    Check.about("28");
    Check.due("odds(1, 0, 0)", x.odds(1, 0, 0), 1);
    Check.due("odds(1, 0, 1)", x.odds(1, 0, 1), 1);
    Check.due("odds(1, 1, 0)", x.odds(1, 1, 0), 15);
    Check.due("odds(1, 1, 1)", x.odds(1, 1, 1), 16);
    Check.due("odds(1, 7, 0)", x.odds(1, 7, 0), 7);
    Check.due("odds(1, 7, 1)", x.odds(1, 7, 1), 8);
    Check.due("n 41", x.odds(1, 41, 0), Check.BEYOND);
    Check.due("n -1", x.odds(1, -1, 0), Check.BEYOND);
    Check.due("part 2", x.odds(1, 1, 2), Check.BEYOND);
    Check.due("part -1", x.odds(1, 1, -1), Check.BEYOND);
    Check.due("nobody", x.odds(2, 1, 0), Check.BEYOND);
    Check.due("no string, part 2", x.odds(0, 1, 2), Check.BEYOND);
    Check.due("no string", x.odds(0, 1, 0), Check.STATE);
    Check.text(x, 1, "9");
    Check.due("odds of 23 by 32", x.odds(1, 6, 0), 23);
    Check.due("odds of 23 by 32", x.odds(1, 6, 1), 32);
    Check.due("odds of 0", x.odds(1, 40, 0), 0);
    Check.due("odds of 0", x.odds(1, 40, 1), 1);
    Check.about("26");
    Check.due("up to the end of the road", x.spareFor(1, 40), 53);
  }

  /** More to SPARE is not always better: on which day the copper is pulled tells what it does. */
  private static void spareByLess() {
    ApronStrings x = Check.still();
    x.one(60, -1, 10, 0);
    x.one(0, 0, 10, 0);
    x.list(0, 1, 1);
    x.list(1, 1, 1);
    Check.text(x, 1, "1");
    Check.about("26");
    Check.due("it comes on day 0", x.spareFor(1, 1), 0);
    Check.due("it cuts on day 1", x.spareFor(1, 2), 2);
    x.list(1, 1, 0);
    Check.due("back on day 1", x.spareFor(1, 2), 1);
    // It goes one on day 0, and on day 1 nine times as far as its string was let out: less holds longer.
    x = Check.still();
    x.one(60, -1, 10, 0);
    x.one(0, 0, 10, 0);
    x.list(0, 1, 1);
    x.list(1, 1, 1);
    Check.text(x, 1, "(d=0)+o*9*(d=1)");
    Check.due("with 0 there is nothing out on day 1, with 1 to 9 it is cut", x.odds(1, 2, 0), 23);
    Check.due("with 0 there is nothing out on day 1, with 1 to 9 it is cut", x.odds(1, 2, 1), 32);
    Check.about("26");
    Check.due("the least is 0 all the same", x.spareFor(1, 2), 0);
  }

  /** One that gives all away: seven children of its own KIND take what its string has. */
  private static void spareForNone() {
    Check.about("26");
    ApronStrings x = Check.still();
    x.one(10, -1, 0, 0);
    x.one(0, 0, 0, 0);
    x.one(0, 1, 0, 0);
    x.one(0, 1, 0, 0);
    x.list(0, 2, 1);
    x.list(1, 3, 1);
    x.list(2, 2, 1);
    x.list(3, 3, 1);
    x.list(4, 1, 1);
    Check.text(x, 0, "1+2*(s>0)");
    Check.text(x, 1, "9");
    Check.due("n 4", x.spareFor(1, 4), 0);
    int least = x.spareFor(1, 5);
    Check.due("n 5", least, 45);
    Check.due("n 35", x.spareFor(1, 35), Check.NONE);
    Check.due("told(2)", x.told(2), 1);
    Check.about("28");
    Check.due("odds", x.odds(1, 35, 0), 0);
    Check.due("odds", x.odds(1, 35, 1), 1);
  }

  /** She gives 90 to her children, and on day 11 her own mother goes 9 cells away from her. */
  private static void spareForMost() {
    Check.about("26");
    ApronStrings x = Check.still();
    x.one(0, -1, 5, 0);
    x.one(0, 0, 5, 0);
    x.one(0, 1, 5, 0);
    x.one(0, 1, 5, 0);
    for (int place = 0; place < 5; place++) x.list(place, 2 + place % 2, 1);
    x.list(5, 0, 1);
    Check.text(x, 0, "1+2*(s>0)");
    Check.text(x, 1, "9*(o>0|d<4)");
    Check.due("n 11", x.spareFor(1, 11), 0);
    Check.due("all that can be", x.spareFor(1, 12), 99);
    Check.due("what it has stays", x.oneIs(1, 5), 0);
  }

  private static void freeFor() {
    Check.about("27");
    ApronStrings x = pair(10);
    Check.due("who cuts stays", x.freeFor(0, 40), 0);
    Check.due("who goes does not", x.freeFor(1, 1), Check.NONE);
    Check.due("but now", x.freeFor(1, 0), 0);
    x.become(0, 0);
    Check.due("who comes", x.freeFor(0, 1), 2);
    Check.due("n 41", x.freeFor(0, 41), Check.BEYOND);
    Check.due("n -1", x.freeFor(0, -1), Check.BEYOND);
    Check.due("nobody", x.freeFor(2, 1), Check.BEYOND);
    x.one(0, 1, 10, 0);
    x.one(0, 0, 10, 0);
    Check.due("the others do not matter", x.freeFor(0, 1), 2);
    x.list(1, 3, 1);
    Check.due("two that pull", x.freeFor(0, 2), 10);
    Check.due("the strings stay", x.count(3), 14);
    // A row 2, 1, 0: each of both would do, the least is the one of 1.
    x = pair(0);
    x.one(0, 1, 10, 0);
    x.list(0, 2, 1);
    Check.due("of several the least", x.freeFor(0, 1), 2);
    // One string of a higher number is fewer than two of lower ones.
    x = pair(0);
    x.one(0, 0, 10, 0);
    x.one(0, 0, 10, 0);
    x.list(1, 2, 1);
    Check.due("the fewest", x.freeFor(3, 2), 8);
    // Held by her string, it stays without any cut.
    x = pair(30);
    Check.due("held", x.freeFor(1, 40), 0);
    Check.due("told(2)", x.told(2), 0);
  }

  private static void walk(ApronStrings x, int to, int set) {
    x.sheet(0, 8, 2);
    x.put(0, 0, 10);
    x.put(0, 1, to);
    Check.due("fits by 10, " + to, x.fits(0, 0, 0), set);
    Check.due("fits by 10, " + to, x.fits(0, 0, 1), Integer.bitCount(set));
  }

  private static void fits() {
    Check.about("29");
    ApronStrings x = Check.still();
    Check.due("nobody", x.fits(0, 0, 0), Check.BEYOND);
    x.one(3, -1, 10, 0);
    Check.due("missing", x.fits(0, 0, 0), Check.NONE);
    Check.due("missing, what 2", x.fits(0, 0, 2), Check.BEYOND);
    Check.due("missing, one 1", x.fits(0, 1, 0), Check.BEYOND);
    Check.due("sheet 4", x.fits(4, 0, 0), Check.BEYOND);
    Check.due("sheet -1", x.fits(-1, 0, 0), Check.BEYOND);
    x.list(0, 0, 1);
    x.list(1, 0, 1);
    walk(x, 12, 3);
    walk(x, 11, 68);
    walk(x, 10, 8);
    walk(x, 15, 16);
    walk(x, 14, 32);
    walk(x, 13, 0);
    x.day(1);
    walk(x, 13, 2);
    walk(x, 16, 16);
    walk(x, 12, 1);
    x.become(0, 8);
    walk(x, 11, 76);
    x.sheet(3, 32, 0);
    Check.due("no numbers", x.fits(3, 0, 0), 127);
    Check.due("no numbers", x.fits(3, 0, 1), 7);
    x.sheet(3, 32, 1);
    Check.due("not there", x.fits(3, 0, 0), 0);
    x.put(3, 0, 10);
    Check.due("there", x.fits(3, 0, 0), 127);
    x.put(3, 0, 266);
    Check.due("256 more is not there", x.fits(3, 0, 0), 0);
    x.sheet(3, 32, 24);
    for (int i = 0; i < 24; i++) x.put(3, i, x.then(0, i));
    Check.due("24 days", x.fits(3, 0, 0), 1);
    // Of which KIND one is matters to those that pull it, too.
    x = Check.still();
    x.one(2, -1, 10, 0);
    x.one(0, 0, 10, 0);
    x.list(0, 1, 1);
    x.sheet(1, 16, 2);
    x.put(1, 0, 10);
    x.put(1, 1, 12);
    Check.due("comes", x.fits(1, 0, 0), 21);
    Check.due("it stays what it is", x.oneIs(0, 0), 0);
  }

  private static void onlyThought() {
    Check.about("23 to 29, only thought");
    ApronStrings x = pair(0);
    x.one(25, 1, 14, 3);
    x.one(11, 2, 20, 1);
    x.list(1, 3, 1);
    x.list(2, 2, 0);
    x.list(3, 0, 0);
    x.sheet(0, 8, 3);
    long was = marks(x);
    x.then(3, 60);
    x.strings(60);
    x.soonest(3, 63);
    x.spareFor(3, 40);
    x.freeFor(3, 40);
    x.odds(3, 40, 0);
    x.fits(0, 2, 0);
    Check.due("all is as it was", marks(x), was);
    int cell = x.then(3, 17);
    int tied = x.strings(17);
    x.days(17);
    Check.due("then is what comes", x.oneIs(3, 3), cell);
    Check.due("strings is what comes", x.count(3), tied);
  }

  private static long marks(ApronStrings x) {
    long all = 17;
    for (int one = 0; one < x.count(0); one++) {
      for (int what = 0; what < 9; what++) all = all * 31 + x.oneIs(one, what);
    }
    for (int place = 0; place < 6; place++) all = all * 31 + x.listed(place);
    for (int what = 0; what < 10; what++) all = all * 31 + x.count(what);
    return all;
  }
}
