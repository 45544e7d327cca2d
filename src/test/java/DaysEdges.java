/** The boundaries of promises 14 to 17, and of what a STEP and a DAY do by Term 1. */
final class DaysEdges {
  private DaysEdges() {}

  static void all() {
    daysRefused();
    days();
    cutsBeside();
    places();
    road();
    far();
    lettingOut();
    whatIsDone();
    gives();
    holds();
    lastHeld();
    toward();
    looseRefused();
    loose();
    draws();
    day();
    seed();
  }

  private static ApronStrings someOn(int day) {
    ApronStrings x = Edge.some();
    x.day(day);
    return x;
  }

  private static void daysRefused() {
    Edge.beyond(14, "n", 1, 60, Edge::some, (x, v) -> x.days(v));
    Edge.beyond(14, "n, of nobody", 1, 60, Edge::fresh, (x, v) -> x.days(v));
    Edge.beyond(14, "BEYOND ahead of STATE, n", 1, 60, Edge::full, (x, v) -> x.days(v));
    for (int n : new int[] {1, 2, 6, 30, 59, 60}) {
      Edge.refused(14, n + " days to 10000", () -> someOn(10000 - n), Check.STATE, x -> x.days(n));
      Edge.refused(14, n + " days from 9999", () -> someOn(9999), Check.STATE, x -> x.days(n));
      Edge.of(14, n + " days to 9999", () -> {
        ApronStrings x = someOn(9999 - n);
        Check.due("days", x.days(n), x.count(2));
        Check.due("day", x.count(1), 9999);
        Check.due("told(3)", x.told(3), 0);
      });
    }
  }

  private static void days() {
    Edge.of(14, "nobody", () -> {
      ApronStrings x = new ApronStrings();
      Check.due("days(1)", x.days(1), 0);
      Check.due("days(60)", x.days(60), 0);
      Check.due("day", x.count(1), 61);
      for (int place = 0; place < 6; place++) Check.due("listed", x.listed(place), 10 * place + 1);
      Check.due("z", x.count(9), 1);
    });
    Edge.of(14, "60 days are as many times one", () -> {
      ApronStrings x = Edge.full();
      ApronStrings y = Edge.full();
      x.day(0);
      y.day(0);
      int cuts = 0;
      for (int i = 0; i < 60; i++) cuts = y.days(1);
      Check.due("days(60)", x.days(60), cuts);
      Check.due("day", x.count(1), 60);
      Edge.toldOnce(x, y, 0);
      for (int one = 0; one < 8; one++) {
        for (int what = 0; what < 9; what++) Check.due("oneIs", x.oneIs(one, what), y.oneIs(one, what));
      }
    });
    Edge.of(14, "CUTS: none, one, all seven", () -> {
      ApronStrings x = Check.still();
      x.one(10, -1, 30, 0);
      for (int i = 1; i < 8; i++) x.one(10, 0, 30, 0);
      for (int place = 0; place < 6; place++) x.list(place, place + 1, place % 2);
      x.list(0, 7, 0);
      x.cut(1);
      x.one(0, 0, 0, 0);
      for (int i = 1; i <= 6; i++) Check.due("day " + i, x.days(1), i);
      Check.due("strings", x.count(3), 0);
      Check.due("no more of them", x.days(60), 6);
      x = Check.still();
      x.one(0, -1, 30, 0);
      for (int i = 1; i < 8; i++) x.one(10, 0, 30, 0);
      x.list(0, 0, 1);
      Check.due("none ahead", x.count(2), 0);
      Check.due("all in one step", x.days(1), 7);
      Check.due("strings", x.count(3), 0);
    });
  }

  private static void cutsBeside() {
    Edge.of(14, "CUTS, whatever DAY and z are", () -> {
      for (int z : new int[] {Edge.LEAST, 0, 9998, 9999, 10000, Edge.MOST}) {
        for (int day : new int[] {0, 9996}) {
          ApronStrings x = pair(10, 0, "1");
          x.seed(z);
          x.day(day);
          Check.due("days(1)", x.days(1), 1);
          Check.due("count(2)", x.count(2), 1);
        }
      }
    });
  }

  private static void places() {
    Edge.of(14, "the place is the rest of DAY by 6", () -> {
      int[] days = {0, 1, 2, 3, 4, 5, 6, 7, 11, 12, 9996, 9997, 9998};
      for (int day : days) {
        for (int place = 0; place < 6; place++) {
          ApronStrings x = Check.still();
          x.one(0, -1, 30, 0);
          x.list(place, 0, 1);
          x.day(day);
          x.days(1);
          Check.due("day " + day + ", place " + place, x.oneIs(0, 3), day % 6 == place ? 32 : 30);
        }
      }
    });
    Edge.of(14, "the last of PEOPLE, and one that is not there", () -> {
      for (int people = 0; people <= 8; people++) {
        ApronStrings x = Check.still();
        for (int i = 0; i < people; i++) x.one(0, -1, 30, 0);
        if (people > 0) {
          x.list(0, people - 1, 0);
          x.days(1);
          for (int i = 0; i < people; i++) Check.due("cell of " + i, x.oneIs(i, 3), i == people - 1 ? 28 : 30);
        }
        if (people < 8) {
          x.list(1, people, 0);
          x.day(1);
          Check.due("days(1)", x.days(1), 0);
          for (int i = 0; i < people; i++) Check.due("cell of " + i, x.oneIs(i, 3), i == people - 1 ? 28 : 30);
          Check.due("listed(1)", x.listed(1), 10 * people);
          Check.due("day", x.count(1), 2);
        }
      }
    });
    Edge.of(14, "odd DAYS, and d, by the DAY that goes by", () -> {
      ApronStrings x = Check.still();
      x.one(10, -1, 30, 0);
      x.list(0, 0, 1);
      x.list(1, 0, 1);
      x.days(1);
      Check.due("on day 0", x.oneIs(0, 3), 32);
      x.days(1);
      Check.due("on day 1", x.oneIs(0, 3), 35);
      Check.text(x, 1, "d");
      x.list(1, 0, 0);
      x.day(7);
      x.days(1);
      Check.due("on day 7", x.oneIs(0, 3), 28);
      x.list(2, 0, 0);
      x.days(1);
      Check.due("on day 8", x.oneIs(0, 3), 28);
    });
  }

  private static ApronStrings walker(int cell, String goes, int way) {
    ApronStrings x = Check.still();
    x.one(0, -1, cell, 0);
    x.list(0, 0, way);
    Check.text(x, 1, goes);
    return x;
  }

  private static void walks(int cell, String goes, int way, int to) {
    ApronStrings x = walker(cell, goes, way);
    Check.due("days(1)", x.days(1), 0);
    Check.due("from " + cell + ", " + goes + " cells by " + way, x.oneIs(0, 3), to);
    Check.due("day", x.count(1), 1);
  }

  private static void road() {
    Edge.of(14, "no cell -1", () -> {
      walks(0, "1", 0, 0);
      walks(0, "9", 0, 0);
      walks(1, "1", 0, 0);
      walks(1, "2", 0, 0);
      walks(8, "9", 0, 0);
      walks(9, "9", 0, 0);
      walks(10, "9", 0, 1);
      walks(0, "1", 1, 1);
    });
    Edge.of(14, "no cell 64", () -> {
      walks(63, "1", 1, 63);
      walks(63, "9", 1, 63);
      walks(62, "1", 1, 63);
      walks(62, "2", 1, 63);
      walks(55, "9", 1, 63);
      walks(54, "9", 1, 63);
      walks(53, "9", 1, 62);
      walks(63, "1", 0, 62);
    });
    Edge.of(14, "nobody is pulled where there is no such cell", () -> {
      for (int way = 0; way < 2; way++) {
        ApronStrings x = walker(63 * way, "9", way);
        x.one(10, 0, 63 * way, 0);
        x.one(10, 0, 30, 0);
        Check.due("days(60)", x.days(60), 0);
        Check.due("strings", x.count(3), 6);
        Check.due("at", x.oneIs(1, 3), 63 * way);
      }
    });
  }

  private static void far() {
    Edge.of(14, "GOES 0, 1 and 9", () -> {
      walks(30, "0", 1, 30);
      walks(30, "0-5", 1, 30);
      walks(30, "1", 1, 31);
      walks(30, "9", 1, 39);
      walks(30, "10", 1, 39);
      walks(30, "9999", 0, 21);
    });
    Edge.of(14, "how far it GOES is found out ahead of its STEPS", () -> {
      ApronStrings x = Check.still();
      x.one(0, -1, 30, 0);
      x.one(0, 0, 30, 50);
      x.list(0, 1, 1);
      Check.text(x, 1, "o+1");
      int[] cells = {31, 33, 37, 45, 54};
      for (int cell : cells) {
        x.day(0);
        x.days(1);
        Check.due("at", x.oneIs(1, 3), cell);
      }
      x.reel(1, 0);
      x = Check.still();
      x.one(0, -1, 30, 0);
      x.one(0, 0, 35, 0);
      x.list(0, 1, 0);
      Check.text(x, 1, "o");
      x.days(1);
      Check.due("o stays 5", x.oneIs(1, 3), 30);
    });
  }

  /** One at a cell with a child there, that goes so far up, first of all. */
  private static ApronStrings pair(int km, int spare, String goes) {
    ApronStrings x = Check.still();
    x.one(km, -1, 10, 0);
    x.one(0, 0, 10, spare);
    x.list(0, 1, 1);
    Check.text(x, 1, goes);
    return x;
  }

  private static void is(ApronStrings x, int one, int mother, int cell, int out, int spare) {
    Check.due("mother of " + one, x.oneIs(one, 2), mother);
    Check.due("cell of " + one, x.oneIs(one, 3), cell);
    Check.due("out of " + one, x.oneIs(one, 4), out);
    Check.due("spare of " + one, x.oneIs(one, 5), spare);
  }

  private static void lettingOut() {
    Edge.of(14, "SPARE just enough, one too few, none", () -> {
      ApronStrings x = pair(10, 4, "4");
      Check.due("days(1)", x.days(1), 0);
      is(x, 1, 0, 14, 4, 0);
      x = pair(10, 3, "4");
      Check.due("days(1)", x.days(1), 1);
      is(x, 1, -1, 14, 0, 0);
      x = pair(10, 0, "1");
      Check.due("days(1)", x.days(1), 1);
      is(x, 1, -1, 11, 0, 0);
      x = pair(10, 0, "0");
      Check.due("days(1)", x.days(1), 0);
      is(x, 1, 0, 10, 0, 0);
    });
    Edge.of(14, "as far apart as it is OUT, and 1 more", () -> {
      ApronStrings x = Check.still();
      x.one(10, -1, 10, 0);
      x.one(0, 0, 15, 2);
      x.list(0, 1, 0);
      x.list(1, 1, 1);
      Check.text(x, 1, "5");
      x.days(1);
      is(x, 1, 0, 10, 5, 2);
      x.days(1);
      is(x, 1, 0, 15, 5, 2);
      Check.text(x, 1, "1");
      x.list(2, 1, 1);
      x.days(1);
      is(x, 1, 0, 16, 6, 1);
      x.list(3, 1, 0);
      Check.text(x, 1, "9");
      x.days(1);
      is(x, 1, 0, 7, 6, 1);
      x.list(4, 1, 0);
      Check.text(x, 1, "3");
      x.days(1);
      is(x, 1, 0, 4, 6, 1);
      x.list(5, 1, 0);
      Check.text(x, 1, "1");
      x.days(1);
      is(x, 1, 0, 3, 7, 0);
    });
    Edge.of(14, "OUT 63 of 99 to SPARE", () -> {
      ApronStrings x = Check.still();
      x.one(10, -1, 0, 0);
      x.one(0, 0, 0, 99);
      for (int place = 0; place < 6; place++) x.list(place, 1, 1);
      Check.text(x, 1, "9");
      Check.due("days(7)", x.days(7), 0);
      is(x, 1, 0, 63, 63, 36);
      Check.due("days(60)", x.days(60), 0);
      is(x, 1, 0, 63, 63, 36);
    });
  }

  private static void whatIsDone() {
    Edge.of(14, "a mother comes by both WAYS, just as far", () -> {
      for (int way = 0; way < 2; way++) {
        ApronStrings x = pair(0, 0, "9");
        x.list(0, 1, way);
        Check.due("days(1)", x.days(1), 0);
        is(x, 0, -1, way == 0 ? 1 : 19, 0, 0);
        is(x, 1, 0, way == 0 ? 1 : 19, 0, 0);
      }
    });
    Edge.of(14, "she comes 1 cell alone where the other one is farther off", () -> {
      ApronStrings x = Check.still();
      x.one(0, -1, 10, 0);
      x.one(0, 0, 20, 0);
      x.list(0, 1, 1);
      Check.text(x, 1, "1");
      x.days(1);
      is(x, 0, -1, 11, 0, 0);
      is(x, 1, 0, 21, 10, 0);
    });
    Edge.of(14, "a row of eight comes, all in one STEP", () -> {
      ApronStrings x = Check.still();
      for (int i = 0; i < 8; i++) x.one(0, i - 1, 10 + i, 0);
      x.list(0, 7, 1);
      x.list(1, 0, 0);
      Check.text(x, 1, "1");
      x.days(1);
      for (int i = 0; i < 8; i++) is(x, i, i - 1, 11 + i, i == 0 ? 0 : 1, 0);
      x.days(1);
      for (int i = 0; i < 8; i++) is(x, i, i - 1, 10 + i, i == 0 ? 0 : 1, 0);
    });
    Edge.of(14, "a cut in the middle of a row", () -> {
      ApronStrings x = Check.still();
      for (int i = 0; i < 8; i++) x.one(i == 3 ? 10 : 0, i - 1, 10, 0);
      x.list(0, 7, 1);
      Check.text(x, 1, "1");
      Check.due("days(1)", x.days(1), 1);
      for (int i = 0; i < 8; i++) is(x, i, i == 4 ? -1 : i - 1, i < 4 ? 10 : 11, 0, 0);
    });
    Edge.of(14, "who is cut free in a STEP goes on with the next", () -> {
      ApronStrings x = pair(10, 1, "9");
      Check.due("days(1)", x.days(1), 1);
      is(x, 0, -1, 10, 0, 0);
      is(x, 1, -1, 19, 0, 0);
    });
  }

  private static void gives() {
    Edge.of(14, "a CLERK with 2, 1 and 0 of her own", () -> {
      int[] cells = {12, 11, 10};
      for (int spare = 0; spare < 3; spare++) {
        ApronStrings x = Check.still();
        x.one(0, -1, 10, 0);
        x.one(20, 0, 10, spare);
        x.one(0, 1, 10, 0);
        x.list(0, 2, 1);
        Check.due("days(1)", x.days(1), 0);
        is(x, 0, -1, cells[spare], 0, 0);
        is(x, 1, 0, cells[spare], 0, 0);
        is(x, 2, 1, 12, spare, 0);
      }
    });
    Edge.of(14, "a CLERK without a STRING, and one that is the child, come", () -> {
      ApronStrings x = pair(20, 0, "1");
      Check.text(x, 0, "3");
      x.days(1);
      is(x, 0, -1, 11, 0, 0);
      x = Check.still();
      x.one(0, -1, 10, 0);
      x.one(20, 0, 10, 0);
      x.one(0, 1, 10, 9);
      x.list(0, 0, 1);
      Check.text(x, 0, "3");
      Check.text(x, 1, "1");
      x.days(1);
      is(x, 1, 0, 11, 0, 0);
      is(x, 2, 1, 10, 1, 8);
    });
    Edge.of(14, "99 are given, and OUT is 63 at most", () -> {
      ApronStrings x = Check.still();
      x.one(0, -1, 0, 0);
      x.one(20, 0, 0, 99);
      x.one(0, 1, 0, 0);
      for (int place = 0; place < 6; place++) x.list(place, 2, 1);
      Check.text(x, 1, "9");
      x.days(60);
      is(x, 1, 0, 0, 0, 36);
      is(x, 2, 1, 63, 63, 0);
    });
  }

  private static void holds() {
    Edge.of(14, "a STEP that is held is not done, nor those behind it", () -> {
      ApronStrings x = pair(30, 2, "9");
      Check.due("days(1)", x.days(1), 0);
      is(x, 0, -1, 10, 0, 0);
      is(x, 1, 0, 12, 2, 0);
      Check.due("day", x.count(1), 1);
      x = pair(30, 0, "9");
      Check.due("days(60)", x.days(60), 0);
      is(x, 1, 0, 10, 0, 0);
    });
    Edge.of(14, "all is as it was ahead of it: let out, given, cut, come", () -> {
      ApronStrings x = Check.still();
      x.one(0, -1, 10, 0);
      x.one(0, 0, 10, 2);
      x.one(10, 0, 10, 0);
      x.one(0, 0, 10, 0);
      x.one(0, 3, 10, 1);
      x.one(10, 3, 10, 0);
      x.one(30, 0, 10, 1);
      x.list(0, 0, 0);
      Check.text(x, 1, "9");
      Check.due("one step done, one held", x.days(1), 2);
      for (int i = 0; i < 2; i++) {
        is(x, 0, -1, 9, 0, 0);
        is(x, 1, 0, 10, 1, 1);
        is(x, 2, -1, 10, 0, 0);
        is(x, 3, 0, 9, 0, 0);
        is(x, 4, 3, 10, 1, 0);
        is(x, 5, -1, 10, 0, 0);
        is(x, 6, 0, 10, 1, 0);
        Check.due("held all the day", x.days(60), 2);
      }
    });
    Edge.of(14, "what was cut and given in the STEP comes back", () -> {
      ApronStrings x = Check.still();
      x.one(0, -1, 10, 0);
      x.one(20, 0, 10, 1);
      x.one(0, 1, 10, 0);
      x.one(10, 2, 10, 0);
      x.one(30, 2, 10, 0);
      x.list(0, 2, 1);
      Check.due("days(1)", x.days(1), 0);
      is(x, 1, 0, 10, 0, 1);
      is(x, 2, 1, 10, 0, 0);
      is(x, 3, 2, 10, 0, 0);
      is(x, 4, 2, 10, 0, 0);
    });
  }

  /** Eight of whom the last one holds, or one high up in the row; the others are of the plainest KIND. */
  private static void lastHeld() {
    Edge.of(14, "the seventh of PEOPLE is as ahead of it: let out, cut", () -> {
      for (int km = 0; km <= 10; km += 10) {
        ApronStrings x = Check.still();
        for (int i = 0; i < 6; i++) x.one(0, i == 0 ? -1 : 0, 10, 0);
        x.one(km, 0, 10, km == 0 ? 1 : 0);
        x.one(30, 0, 10, 0);
        for (int place = 0; place < 6; place++) x.list(place, 0, 1);
        Check.due("days(6)", x.days(6), 0);
        is(x, 0, -1, 10, 0, 0);
        for (int i = 1; i < 8; i++) is(x, i, 0, 10, 0, i == 6 && km == 0 ? 1 : 0);
      }
    });
    Edge.of(14, "the seventh and the eighth are where they were ahead of it", () -> {
      ApronStrings x = Check.still();
      for (int i = 0; i < 8; i++) x.one(i == 5 ? 30 : 0, i - 1, 10, 0);
      for (int way = 0; way < 2; way++) {
        x.list(way, 7, way);
        Check.due("days(1)", x.days(1), 0);
        for (int i = 0; i < 8; i++) is(x, i, i - 1, 10, 0, 0);
      }
    });
    Edge.of(14, "the seventh gives to the eighth", () -> {
      ApronStrings x = Check.still();
      for (int i = 0; i < 6; i++) x.one(0, i == 0 ? -1 : 0, 10, 0);
      x.one(20, 0, 10, 5);
      x.one(0, 6, 10, 0);
      x.list(0, 7, 1);
      Check.text(x, 1, "1");
      Check.due("days(1)", x.days(1), 0);
      is(x, 6, 0, 10, 0, 4);
      is(x, 7, 6, 11, 1, 0);
    });
  }

  private static void toward() {
    Edge.of(14, "a child comes toward ITS MOTHER, wherever the others are", () -> {
      for (int way = 0; way < 2; way++) {
        ApronStrings x = Check.still();
        x.one(0, -1, 63 * way, 0);
        x.one(0, -1, 63 - 63 * way, 0);
        x.one(0, -1, 30, 0);
        x.one(0, 2, 30, 0);
        x.one(0, 3, 30, 0);
        x.list(0, 2, 1 - way);
        x.days(1);
        for (int i = 2; i < 5; i++) Check.due("cell of " + i, x.oneIs(i, 3), way == 0 ? 32 : 28);
        x.list(1, 4, way);
        x.days(1);
        for (int i = 2; i < 5; i++) Check.due("cell of " + i, x.oneIs(i, 3), 30);
      }
    });
  }

  private static void looseRefused() {
    Edge.beyond(15, "n", 1, 30, Edge::some, (x, v) -> x.loose(v));
    Edge.beyond(15, "n, of nobody", 1, 30, Edge::fresh, (x, v) -> x.loose(v));
    Edge.beyond(15, "BEYOND ahead of STATE, n", 1, 30, Edge::full, (x, v) -> x.loose(v));
    for (int n : new int[] {1, 2, 6, 29, 30}) {
      Edge.refused(15, n + " days to 10000", () -> someOn(10000 - n), Check.STATE, x -> x.loose(n));
      Edge.refused(15, n + " days from 9999", () -> someOn(9999), Check.STATE, x -> x.loose(n));
      Edge.of(15, n + " days to 9999", () -> {
        ApronStrings x = someOn(9999 - n);
        Check.due("loose", x.loose(n), x.count(2));
        Check.due("day", x.count(1), 9999);
        Check.due("z", x.count(9), drawn(-7, 2 * n));
        Check.due("told(3)", x.told(3), 0);
      });
    }
  }

  private static int drawn(int z, int n) {
    for (int i = 0; i < n; i++) z = z * 1103515245 + 12345;
    return z;
  }

  private static void loose() {
    Edge.of(15, "nobody", () -> {
      ApronStrings x = new ApronStrings();
      Check.due("loose(1)", x.loose(1), 0);
      Check.due("listed(0)", x.listed(0), 60);
      Check.due("listed(1)", x.listed(1), 11);
      Check.due("loose(30)", x.loose(30), 0);
      Check.due("day", x.count(1), 31);
      Check.due("z", x.count(9), drawn(1, 62));
    });
    Edge.of(15, "30 days are as many times one", () -> {
      ApronStrings x = Edge.full();
      ApronStrings y = Edge.full();
      x.day(9969);
      y.day(9969);
      int cuts = 0;
      for (int i = 0; i < 30; i++) cuts = y.loose(1);
      Check.due("loose(30)", x.loose(30), cuts);
      Check.due("day", x.count(1), 9999);
      for (int place = 0; place < 6; place++) Check.due("listed", x.listed(place), y.listed(place));
      for (int one = 0; one < 8; one++) {
        for (int what = 0; what < 9; what++) Check.due("oneIs", x.oneIs(one, what), y.oneIs(one, what));
      }
    });
    Edge.of(15, "all eight of PEOPLE, by both WAYS, in every place", () -> {
      int seen = 0;
      int z = 77;
      for (int i = 0; i < 400; i++) {
        ApronStrings x = Check.still();
        for (int one = 0; one < 8; one++) x.one(0, -1, 30, 0);
        int who = (drawn(z, 1) >>> 8) % 8;
        int way = (drawn(z, 2) >>> 8) % 2;
        x.seed(z);
        x.day(i);
        Check.due("loose(1)", x.loose(1), 0);
        for (int p = 0; p < 6; p++) Check.due("listed " + p, x.listed(p), p == i % 6 ? 10 * who + way : 71);
        for (int one = 0; one < 8; one++) {
          Check.due("cell of " + one, x.oneIs(one, 3), one == who ? 28 + 4 * way : 30);
        }
        z = drawn(z, 2);
        Check.due("z", x.count(9), z);
        seen |= 1 << 2 * who + way;
      }
      Check.due("all were seen", seen, 65535);
    });
  }

  private static void draws() {
    Edge.of(15, "z from any number on: a draw of a number below 0 is none below 0", () -> {
      int[] any = {0, 1, -1, Edge.LEAST, Edge.MOST, Check.BEYOND};
      for (int z : any) {
        ApronStrings x = new ApronStrings();
        x.seed(z);
        x.loose(1);
        int first = z * 1103515245 + 12345;
        int second = first * 1103515245 + 12345;
        Check.due("z behind " + z, x.count(9), second);
        long one = (first & 0xFFFFFFFFL) / 256 % 8;
        long way = (second & 0xFFFFFFFFL) / 256 % 2;
        Check.due("listed(0) behind " + z, x.listed(0), 10 * one + way);
      }
    });
  }

  private static void day() {
    Edge.beyond(16, "v", 0, 9999, Edge::some, (x, v) -> x.day(v));
    Edge.beyond(16, "v, on day 9999", 0, 9999, Edge::full, (x, v) -> x.day(v));
    Edge.of(16, "0 and 9999", () -> {
      ApronStrings x = new ApronStrings();
      Check.due("day(9999)", x.day(9999), 0);
      Check.due("count(1)", x.count(1), 9999);
      Check.due("day(9999)", x.day(9999), 9999);
      Check.due("day(0)", x.day(0), 9999);
      Check.due("count(1)", x.count(1), 0);
      Check.due("day(1)", x.day(1), 0);
      Check.due("day(9998)", x.day(9998), 1);
      Check.due("days(1)", x.days(1), 0);
      Check.due("day(0)", x.day(0), 9999);
      Check.due("no error", x.told(1) + x.told(3), 0);
    });
    Edge.of(16, "the same again", () -> {
      ApronStrings x = Edge.full();
      Check.due("day(9999)", x.day(9999), 9999);
      Edge.alike(x, Edge.full());
    });
  }

  private static void seed() {
    Edge.of(17, "any number", () -> {
      int[] any = {0, -1, Edge.LEAST, Edge.MOST, Check.LOW, Check.BEYOND, Check.NONE, Check.PARTED, 1};
      ApronStrings x = new ApronStrings();
      int was = 1;
      for (int z : any) {
        Check.due("seed(" + z + ")", x.seed(z), was);
        Check.due("count(9)", x.count(9), z);
        was = z;
      }
      for (int k = 1; k <= 6; k++) Check.due("told " + k, x.told(k), 0);
      Edge.alike(x, new ApronStrings());
    });
  }
}
