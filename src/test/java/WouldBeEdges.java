/** The boundaries of promises 23 to 29, and of what Term 3 says is only thought. */
final class WouldBeEdges {
  private WouldBeEdges() {}

  static void all() {
    then();
    strings();
    soonest();
    spareForRefused();
    spareFor();
    freeForRefused();
    freeFor();
    oddsRefused();
    odds();
    fitsRefused();
    fits();
    fitsByM();
    thought();
  }

  /** A bride, who cuts, at a cell, and her child there, who goes up 9 a day to the road's end. */
  private static ApronStrings runner(int cell) {
    ApronStrings x = Check.still();
    x.one(10, -1, cell, 0);
    x.one(0, 0, cell, 50);
    for (int place = 0; place < 6; place++) x.list(place, 1, 1);
    Check.text(x, 1, "9");
    return x;
  }

  /** The child goes up 1 cell a day. */
  private static ApronStrings stroller(int cell) {
    ApronStrings x = runner(cell);
    Check.text(x, 1, "1");
    return x;
  }

  private static void then() {
    Edge.beyond(23, "one of three", 0, 2, Edge::some, (x, v) -> x.then(v, 5));
    Edge.beyond(23, "one of eight", 0, 7, Edge::full, (x, v) -> x.then(v, 5));
    Edge.beyond(23, "n", 0, 60, Edge::some, (x, v) -> x.then(1, v));
    Edge.beyond(23, "n, on day 9999", 0, 60, Edge::full, (x, v) -> x.then(7, v));
    Edge.refused(23, "nobody", Edge::fresh, Check.BEYOND, x -> x.then(0, 0));
    Edge.refused(23, "one and n are beyond", Edge::some, Check.BEYOND, x -> x.then(3, 61));
    Edge.of(23, "n 0, 1, 59 and 60", () -> {
      ApronStrings x = stroller(2);
      Check.due("0", x.then(1, 0), 2);
      Check.due("1", x.then(1, 1), 3);
      Check.due("59", x.then(1, 59), 61);
      Check.due("60", x.then(1, 60), 62);
      Check.due("of the other one", x.then(0, 60), 2);
    });
    Edge.of(23, "DAY beyond 9999", () -> {
      ApronStrings x = stroller(2);
      Check.text(x, 1, "d=0");
      x.day(9999);
      // Days 10000, 10008, .. 10056 have the rest 0; day 9999 has not.
      int[] ns = {0, 1, 2, 9, 10, 57, 58, 60};
      int[] cells = {2, 2, 3, 3, 4, 9, 10, 10};
      for (int i = 0; i < ns.length; i++) Check.due("n " + ns[i], x.then(1, ns[i]), cells[i]);
      Check.due("day", x.count(1), 9999);
      Check.due("no error", x.told(1) + x.told(3), 0);
    });
    Edge.of(23, "places and odd DAYS beyond 9999", () -> {
      ApronStrings x = Check.still();
      x.one(10, -1, 10, 0);
      // The rest of 9999 by 6 is 3, of 10000 it is 4.
      x.list(3, 0, 1);
      x.list(4, 0, 1);
      x.list(5, 0, 1);
      x.day(9999);
      int[] cells = {10, 13, 15, 18, 18, 18, 18, 21};
      for (int n = 0; n < cells.length; n++) Check.due("n " + n, x.then(0, n), cells[n]);
    });
  }

  private static void strings() {
    Edge.beyond(24, "n", 0, 60, Edge::some, (x, v) -> x.strings(v));
    Edge.beyond(24, "n, of nobody", 0, 60, Edge::fresh, (x, v) -> x.strings(v));
    Edge.beyond(24, "n, on day 9999", 0, 60, Edge::full, (x, v) -> x.strings(v));
    Edge.of(24, "nobody", () -> {
      Check.due("strings(0)", new ApronStrings().strings(0), 0);
      Check.due("strings(60)", new ApronStrings().strings(60), 0);
    });
    Edge.of(24, "n 0, and the very day on which it is cut", () -> {
      ApronStrings x = stroller(2);
      Check.due("0", x.strings(0), 2);
      Check.due("50", x.strings(50), 2);
      Check.due("51", x.strings(51), 0);
      Check.due("60", x.strings(60), 0);
      x.reel(1, 59);
      Check.due("59", x.strings(59), 2);
      Check.due("60", x.strings(60), 0);
      x.reel(1, 60);
      Check.due("60", x.strings(60), 2);
    });
    Edge.of(24, "seven, and none", () -> {
      ApronStrings x = Check.still();
      x.one(0, -1, 30, 0);
      for (int i = 1; i < 8; i++) x.one(10, 0, 30, 0);
      x.list(5, 0, 1);
      Check.text(x, 1, "d=5");
      Check.due("0", x.strings(0), 254);
      Check.due("5", x.strings(5), 254);
      Check.due("6", x.strings(6), 0);
    });
    Edge.of(24, "DAY beyond 9999", () -> {
      ApronStrings x = stroller(2);
      x.reel(1, 0);
      Check.text(x, 1, "d=0");
      x.day(9999);
      Check.due("1", x.strings(1), 2);
      Check.due("2", x.strings(2), 0);
    });
  }

  private static void soonest() {
    Edge.beyond(25, "one of three", 0, 2, Edge::some, (x, v) -> x.soonest(v, 30));
    Edge.beyond(25, "one of eight", 0, 7, Edge::full, (x, v) -> x.soonest(v, 30));
    Edge.beyond(25, "cell", 0, 63, Edge::some, (x, v) -> x.soonest(0, v));
    Edge.beyond(25, "cell, of eight", 0, 63, Edge::full, (x, v) -> x.soonest(7, v));
    Edge.refused(25, "nobody", Edge::fresh, Check.BEYOND, x -> x.soonest(0, 0));
    Edge.refused(25, "one and cell are beyond", Edge::some, Check.BEYOND, x -> x.soonest(3, 64));
    Edge.refused(25, "never", Edge::full, Check.NONE, x -> x.soonest(7, 0));
    Edge.refused(25, "behind 61", () -> stroller(2), Check.NONE, x -> x.soonest(1, 63));
    Edge.refused(25, "on day 61 alone, from 9999 on", WouldBeEdges::late, Check.NONE, x -> x.soonest(1, 63));
    Edge.of(25, "0, 1, 59 and 60", () -> {
      ApronStrings x = stroller(2);
      Check.due("there", x.soonest(1, 2), 0);
      Check.due("the next", x.soonest(1, 3), 1);
      Check.due("behind 59", x.soonest(1, 61), 59);
      Check.due("behind 60", x.soonest(1, 62), 60);
      Check.due("who stays", x.soonest(0, 2), 0);
    });
    Edge.of(25, "cells 0 and 63", () -> {
      ApronStrings x = stroller(63);
      Check.due("63", x.soonest(0, 63), 0);
      x = stroller(0);
      Check.due("0", x.soonest(0, 0), 0);
      x.list(0, 1, 0);
      x.days(1);
      Check.due("63 from 0", runner(0).soonest(1, 63), 7);
    });
    Edge.of(25, "first, not again", () -> {
      ApronStrings x = stroller(10);
      for (int place = 0; place < 6; place++) x.list(place, 1, place % 2);
      Check.due("9", x.soonest(1, 9), 1);
      Check.due("10", x.soonest(1, 10), 0);
    });
  }

  private static ApronStrings late() {
    ApronStrings x = stroller(2);
    x.day(9999);
    return x;
  }

  /** One who gives all away, to two children who go to the road's end; behind 35 days none is enough. */
  private static ApronStrings spender() {
    ApronStrings x = Check.still();
    x.one(10, -1, 0, 0);
    x.one(0, 0, 0, 5);
    x.one(0, 1, 0, 0);
    x.one(0, 1, 0, 0);
    x.list(0, 2, 1);
    x.list(1, 3, 1);
    x.list(2, 2, 1);
    x.list(3, 3, 1);
    x.list(4, 1, 1);
    Check.text(x, 0, "1+2*(s>0)");
    Check.text(x, 1, "9");
    return x;
  }

  private static void spareForRefused() {
    Edge.beyond(26, "one of three", 0, 2, Edge::some, (x, v) -> x.spareFor(v, 5));
    Edge.beyond(26, "one of eight", 0, 7, Edge::full, (x, v) -> x.spareFor(v, 5));
    Edge.beyond(26, "n", 0, 40, Edge::some, (x, v) -> x.spareFor(1, v));
    Edge.beyond(26, "BEYOND ahead of STATE, n", 0, 40, Edge::some, (x, v) -> x.spareFor(0, v));
    Edge.beyond(26, "BEYOND ahead of NONE, n", 0, 40, WouldBeEdges::spender, (x, v) -> x.spareFor(1, v));
    Edge.refused(26, "nobody", Edge::fresh, Check.BEYOND, x -> x.spareFor(0, 0));
    Edge.refused(26, "no STRING", Edge::some, Check.STATE, x -> x.spareFor(0, 0));
    Edge.refused(26, "no STRING, n 40", Edge::full, Check.STATE, x -> x.spareFor(7, 40));
    Edge.refused(26, "with 99 not", WouldBeEdges::spender, Check.NONE, x -> x.spareFor(1, 35));
    Edge.refused(26, "with 99 not, n 40", WouldBeEdges::spender, Check.NONE, x -> x.spareFor(1, 40));
  }

  private static void spareFor() {
    Edge.of(26, "n 0: 0 is enough", () -> {
      Check.due("spareFor", runner(0).spareFor(1, 0), 0);
      Check.due("of the last", Edge.full().spareFor(6, 0), 0);
    });
    Edge.of(26, "n 1 to 40, 0 to 63 to SPARE", () -> {
      ApronStrings x = runner(0);
      for (int n = 0; n <= 40; n++) Check.due("n " + n, x.spareFor(1, n), Math.min(9 * n, 63));
      for (int cell = 0; cell < 64; cell++) Check.due("from " + cell, runner(cell).spareFor(1, 40), 63 - cell);
      Check.due("what it has stays", x.oneIs(1, 5), 50);
    });
    Edge.of(26, "all 99", () -> {
      // 90 are given to two children, then 9 are let out as her own mother goes.
      ApronStrings x = Check.still();
      x.one(0, -1, 5, 0);
      x.one(0, 0, 5, 0);
      x.one(0, 1, 5, 0);
      x.one(0, 1, 5, 0);
      for (int place = 0; place < 5; place++) x.list(place, 2 + place % 2, 1);
      x.list(5, 0, 1);
      Check.text(x, 0, "1+2*(s>0)");
      Check.text(x, 1, "9*(o>0|d<4)");
      Check.due("n 12", x.spareFor(1, 12), 99);
      Check.due("n 11", x.spareFor(1, 11), 0);
    });
    Edge.of(26, "DAY beyond 9999", () -> {
      ApronStrings x = runner(0);
      x.day(9999);
      Check.due("n 40", x.spareFor(1, 40), 63);
      Check.due("n 2", x.spareFor(1, 2), 18);
      Check.due("day", x.count(1), 9999);
    });
  }

  private static void freeForRefused() {
    Edge.beyond(27, "one of three", 0, 2, Edge::some, (x, v) -> x.freeFor(v, 5));
    Edge.beyond(27, "one of eight", 0, 7, Edge::full, (x, v) -> x.freeFor(v, 0));
    Edge.beyond(27, "n", 0, 40, Edge::some, (x, v) -> x.freeFor(1, v));
    Edge.beyond(27, "BEYOND ahead of NONE, n", 0, 40, () -> runner(0), (x, v) -> x.freeFor(1, v));
    Edge.refused(27, "nobody", Edge::fresh, Check.BEYOND, x -> x.freeFor(0, 0));
    Edge.refused(27, "by none, n 1", () -> runner(0), Check.NONE, x -> x.freeFor(1, 1));
    Edge.refused(27, "by none, n 40", () -> runner(0), Check.NONE, x -> x.freeFor(1, 40));
    Edge.refused(27, "by none, no STRING", WouldBeEdges::alone, Check.NONE, x -> x.freeFor(0, 1));
  }

  private static ApronStrings alone() {
    ApronStrings x = Check.still();
    x.one(0, -1, 30, 0);
    x.list(0, 0, 1);
    return x;
  }

  private static void freeFor() {
    Edge.of(27, "n 0, and one whom nobody pulls: the empty set", () -> {
      Check.due("n 0", runner(0).freeFor(1, 0), 0);
      Check.due("n 0 of eight", Edge.full().freeFor(6, 0), 0);
      Check.due("n 40", runner(0).freeFor(0, 40), 0);
      ApronStrings x = alone();
      Check.due("no STRING", x.freeFor(0, 0), 0);
    });
    Edge.of(27, "one who is back by then", () -> {
      ApronStrings x = alone();
      x.list(1, 0, 0);
      Check.due("n 2", x.freeFor(0, 2), 0);
      Check.due("n 1", x.freeFor(0, 1), Check.NONE);
    });
    Edge.of(27, "one of seven to six of seven that pull", () -> {
      for (int pull = 1; pull <= 6; pull++) {
        ApronStrings x = Check.still();
        x.one(0, -1, 30, 0);
        for (int i = 1; i < 8; i++) x.one(0, 0, 30, 0);
        for (int place = 0; place < 6; place++) x.list(place, Math.max(8 - pull, 7 - place), 1);
        int set = 0;
        for (int i = 8 - pull; i < 8; i++) set |= 1 << i;
        Check.due(pull + " pull", x.freeFor(0, 6), set);
        Check.due("the strings stay", x.count(3), 254);
      }
    });
    Edge.of(27, "of several sets the least", () -> {
      ApronStrings x = Check.still();
      for (int i = 0; i < 8; i++) x.one(0, i - 1, 30, 0);
      x.list(0, 7, 1);
      for (int one = 0; one < 7; one++) Check.due("of " + one, x.freeFor(one, 1), 2 << one);
      Check.due("of who goes", x.freeFor(7, 1), Check.NONE);
    });
    Edge.of(27, "the fewest ahead of the least", () -> {
      ApronStrings x = Check.still();
      x.one(0, -1, 30, 0);
      for (int i = 1; i < 7; i++) x.one(0, 0, 30, 0);
      x.one(0, 0, 30, 0);
      x.list(0, 7, 1);
      Check.due("{7}", x.freeFor(0, 1), 128);
      x = Check.still();
      x.one(0, -1, 30, 0);
      for (int i = 1; i < 4; i++) x.one(0, 0, 30, 0);
      x.list(0, 1, 1);
      x.list(1, 2, 1);
      Check.due("{3}, not {1, 2}", x.freeFor(3, 2), 8);
      Check.due("{1, 2}, for there is no other", x.freeFor(0, 2), 6);
    });
    Edge.of(27, "DAY beyond 9999", () -> {
      ApronStrings x = Check.still();
      x.one(0, -1, 10, 0);
      x.one(0, 0, 10, 0);
      x.list(4, 1, 1);
      x.day(9999);
      Check.due("n 1", x.freeFor(0, 1), 0);
      Check.due("n 2", x.freeFor(0, 2), 2);
      Check.due("n 40", x.freeFor(0, 40), 2);
    });
  }

  private static void oddsRefused() {
    Edge.beyond(28, "one of three", 0, 2, Edge::some, (x, v) -> x.odds(v, 5, 0));
    Edge.beyond(28, "one of eight", 0, 7, Edge::full, (x, v) -> x.odds(v, 5, 1));
    Edge.beyond(28, "n", 0, 40, Edge::some, (x, v) -> x.odds(1, v, 0));
    Edge.beyond(28, "part", 0, 1, Edge::some, (x, v) -> x.odds(1, 5, v));
    Edge.beyond(28, "BEYOND ahead of STATE, n", 0, 40, Edge::some, (x, v) -> x.odds(0, v, 0));
    Edge.beyond(28, "BEYOND ahead of STATE, part", 0, 1, Edge::full, (x, v) -> x.odds(7, 5, v));
    Edge.refused(28, "nobody", Edge::fresh, Check.BEYOND, x -> x.odds(0, 0, 0));
    Edge.refused(28, "no STRING, part 0", Edge::some, Check.STATE, x -> x.odds(0, 0, 0));
    Edge.refused(28, "no STRING, part 1, n 40", Edge::full, Check.STATE, x -> x.odds(7, 40, 1));
  }

  private static void odds() {
    Edge.of(28, "none to all of 32, in lowest terms", () -> {
      for (int above = 0; above <= 32; above++) {
        ApronStrings x = runner(31 + above);
        int by = above == 0 ? 32 : Integer.lowestOneBit(above);
        Check.due(above + " of 32, above", x.odds(1, 40, 0), above / by);
        Check.due(above + " of 32, below", x.odds(1, 40, 1), 32 / by);
        Check.due("what it has stays", x.oneIs(1, 5), 50);
      }
    });
    Edge.of(28, "0 is 0 by 1", () -> {
      Check.due("above", runner(0).odds(1, 40, 0), 0);
      Check.due("below", runner(0).odds(1, 40, 1), 1);
    });
    Edge.of(28, "n 0: 1 by 1", () -> {
      Check.due("above", runner(0).odds(1, 0, 0), 1);
      Check.due("below", runner(0).odds(1, 0, 1), 1);
    });
    Edge.of(28, "n 1, 3, 4 by 9 cells a day", () -> {
      ApronStrings x = runner(0);
      Check.due("n 1, above", x.odds(1, 1, 0), 23);
      Check.due("n 1, below", x.odds(1, 1, 1), 32);
      Check.due("n 3, above", x.odds(1, 3, 0), 5);
      Check.due("n 3, below", x.odds(1, 3, 1), 32);
      Check.due("n 4, above", x.odds(1, 4, 0), 0);
      Check.due("n 4, below", x.odds(1, 4, 1), 1);
    });
    Edge.of(28, "DAY beyond 9999", () -> {
      ApronStrings x = runner(0);
      x.day(9999);
      Check.due("n 3, above", x.odds(1, 3, 0), 5);
      Check.due("day", x.count(1), 9999);
    });
  }

  private static void fitsRefused() {
    Edge.beyond(29, "sheet", 0, 3, Edge::some, (x, v) -> x.fits(v, 0, 0));
    Edge.beyond(29, "one of three", 0, 2, Edge::some, (x, v) -> x.fits(0, v, 0));
    Edge.beyond(29, "one of eight", 0, 7, Edge::full, (x, v) -> x.fits(0, v, 1));
    Edge.beyond(29, "what", 0, 1, Edge::some, (x, v) -> x.fits(0, 0, v));
    Edge.beyond(29, "BEYOND ahead of NONE, one", 0, 2, Edge::some, (x, v) -> x.fits(3, v, 0));
    Edge.beyond(29, "BEYOND ahead of NONE, what", 0, 1, Edge::some, (x, v) -> x.fits(3, 0, v));
    Edge.refused(29, "a missing SHEET, nobody", Edge::fresh, Check.BEYOND, x -> x.fits(0, 0, 0));
    Edge.refused(29, "a missing SHEET, what 0", Edge::some, Check.NONE, x -> x.fits(3, 0, 0));
    Edge.refused(29, "a missing SHEET, what 1", Edge::full, Check.NONE, x -> x.fits(3, 7, 1));
  }

  private static void fit(ApronStrings x, int sheet, int one, int set) {
    Check.due("set", x.fits(sheet, one, 0), set);
    Check.due("how many", x.fits(sheet, one, 1), Integer.bitCount(set));
  }

  private static void fits() {
    Edge.of(29, "a SHEET of 0 numbers: all seven KINDS", () -> {
      for (int bits = 8; bits <= 32; bits *= 2) {
        ApronStrings x = Edge.some();
        x.sheet(3, bits, 0);
        for (int one = 0; one < 3; one++) fit(x, 3, one, 127);
      }
    });
    Edge.of(29, "a SHEET of 1 number: this DAY alone", () -> {
      int[] cells = {0, 63};
      for (int cell : cells) {
        ApronStrings x = Check.still();
        x.one(0, -1, cell, 0);
        x.list(0, 0, 1 - cell / 63);
        x.sheet(0, 8, 1);
        x.put(0, 0, cell);
        fit(x, 0, 0, 127);
        x.put(0, 0, cell == 0 ? 1 : 62);
        fit(x, 0, 0, 0);
        x.put(0, 0, cell - 64);
        fit(x, 0, 0, 0);
      }
    });
    Edge.of(29, "a SHEET of 24 numbers, its last one right and wrong", () -> {
      ApronStrings x = Check.still();
      x.one(3, -1, 10, 0);
      x.list(0, 0, 1);
      x.list(3, 0, 1);
      x.day(9999);
      x.sheet(2, 16, 24);
      for (int i = 0; i < 24; i++) x.put(2, i, x.then(0, i));
      fit(x, 2, 0, 1);
      x.put(2, 23, x.then(0, 23) + 1);
      fit(x, 2, 0, 0);
      x.put(2, 23, x.then(0, 23));
      x.put(2, 0, 11);
      fit(x, 2, 0, 0);
    });
    Edge.of(29, "what the lowest bits of its numbers are", () -> {
      ApronStrings x = Check.still();
      x.one(0, -1, 10, 0);
      x.sheet(0, 8, 1);
      x.sheet(1, 16, 1);
      x.sheet(2, 32, 1);
      for (int sheet = 0; sheet < 3; sheet++) {
        x.put(sheet, 0, 10 + 256);
        fit(x, sheet, 0, sheet == 0 ? 127 : 0);
        x.put(sheet, 0, 10 + 65536);
        fit(x, sheet, 0, sheet <= 1 ? 127 : 0);
        x.put(sheet, 0, Edge.LEAST + 10);
        fit(x, sheet, 0, sheet <= 1 ? 127 : 0);
        x.put(sheet, 0, -1);
        fit(x, sheet, 0, 0);
      }
    });
  }

  private static void fitsByM() {
    Edge.of(29, "with its m, least and greatest", () -> {
      // Behind one day up from 10: the mother 12, bride 12, clerk 11, granny 10 or 11, arctic 12 + m, boy 14, copper 11.
      int[][] due = {{0, 12, 19}, {0, 11, 68}, {0, 10, 8}, {0, 14, 32}, {9, 19, 16}, {9, 12, 3}, {9, 11, 76}, {9, 10, 0},
          {4, 10, 8}, {5, 10, 0}, {5, 11, 76}, {2, 14, 48}};
      for (int[] d : due) {
        ApronStrings x = Check.still();
        x.one(60 + d[0], -1, 10, 0);
        x.list(0, 0, 1);
        x.sheet(0, 32, 2);
        x.put(0, 0, 10);
        x.put(0, 1, d[1]);
        fit(x, 0, 0, d[2]);
        Check.due("it stays what it is", x.oneIs(0, 0), 6);
        Check.due("and where", x.oneIs(0, 3), 10);
      }
    });
  }

  private static void thought() {
    Edge.of(23, "nothing is changed by asking, 23 to 29", () -> {
      ApronStrings x = Edge.full();
      for (int one = 0; one < 8; one++) {
        x.then(one, 60);
        x.soonest(one, x.oneIs(one, 3));
        x.freeFor(one, 0);
        x.fits(2, one, 0);
      }
      x.strings(60);
      for (int one = 1; one < 7; one++) {
        x.spareFor(one, 0);
        x.odds(one, 40, 1);
      }
      Edge.toldOnce(x, Edge.full(), 0);
      Edge.alike(x, Edge.full());
    });
    Edge.of(23, "what would be is what comes, to day 9999", () -> {
      ApronStrings x = Edge.full();
      x.day(9939);
      int[] cells = new int[8];
      for (int one = 0; one < 8; one++) cells[one] = x.then(one, 60);
      int set = x.strings(60);
      x.days(60);
      for (int one = 0; one < 8; one++) Check.due("cell of " + one, x.oneIs(one, 3), cells[one]);
      Check.due("strings", x.count(3), set);
    });
  }
}
