/** The boundaries of promises 1 to 9, and of the YIELDS and STEPS that oneIs tells. */
final class PeopleEdges {
  private PeopleEdges() {}

  static void all() {
    newObject();
    newParts();
    one();
    oneTaken();
    oneIs();
    leastAndMost();
    yields();
    steps();
    does();
    goes();
    become();
    as();
    reel();
    cut();
    list();
    listed();
  }

  private static void newObject() {
    Edge.of(1, "nobody", () -> {
      ApronStrings x = new ApronStrings();
      Check.due("count(0)", x.count(0), 0);
      for (int what = 0; what < 9; what++) Check.due("oneIs(0, " + what + ")", x.oneIs(0, what), Check.BEYOND);
      Check.due("the first is number", x.one(0, -1, 0, 0), 0);
    });
    Edge.of(1, "no STRING", () -> {
      ApronStrings x = new ApronStrings();
      for (int what = 3; what < 6; what++) Check.due("count " + what, x.count(what), 0);
      Check.due("strings(0)", x.strings(0), 0);
      Check.due("crossings()", x.crossings(), 0);
    });
    Edge.of(1, "DAY and CUTS are 0", () -> {
      Check.due("count(1)", new ApronStrings().count(1), 0);
      Check.due("count(2)", new ApronStrings().count(2), 0);
      Check.due("day(1)", new ApronStrings().day(1), 0);
    });
    Edge.of(1, "THE LIST has its own numbers and 1", () -> {
      for (int place = 0; place < 6; place++) {
        Check.due("listed " + place, new ApronStrings().listed(place), 10 * place + 1);
        Check.due("list " + place, new ApronStrings().list(place, 0, 0), 10 * place + 1);
      }
    });
    Edge.of(1, "z is 1", () -> {
      Check.due("count(9)", new ApronStrings().count(9), 1);
      Check.due("seed(0)", new ApronStrings().seed(0), 1);
    });
    Edge.of(1, "no ERROR is told", () -> {
      for (int k = 1; k <= 6; k++) Check.due("told " + k, new ApronStrings().told(k), 0);
    });
    Edge.of(1, "objects are apart", () -> {
      ApronStrings other = new ApronStrings();
      Edge.full();
      Edge.alike(other, new ApronStrings());
    });
  }

  private static void newParts() {
    Edge.of(1, "no TEXTS", () -> {
      for (int use = 0; use < 2; use++) {
        Check.due("untell " + use, new ApronStrings().untell(use), 0);
        Check.due("law " + use, new ApronStrings().law(use, 2, 7, 8), 2);
      }
    });
    Edge.of(1, "THE TAPE of 0 bytes", () -> {
      Check.due("count(6)", new ApronStrings().count(6), 0);
      Check.due("text(0)", new ApronStrings().text(0), -10);
      Check.due("text(1)", new ApronStrings().text(1), -10);
    });
    Edge.of(1, "no number waits", () -> {
      Check.due("count(7)", new ApronStrings().count(7), 0);
      Check.due("check()", new ApronStrings().check(), 0);
      Check.due("tell(5)", new ApronStrings().tell(5), 1);
    });
    Edge.of(1, "THE TRACE has no BODIES", () -> {
      Check.due("count(8)", new ApronStrings().count(8), 0);
      Check.due("body(0)", new ApronStrings().body(0), Check.NONE);
    });
    Edge.of(1, "SHEETS are missing", () -> {
      for (int sheet = 0; sheet < 4; sheet++) {
        Check.due("judge " + sheet, new ApronStrings().judge(sheet), Check.NONE);
        Check.due("reels " + sheet, new ApronStrings().reels(sheet), Check.NONE);
        Check.due("put " + sheet, new ApronStrings().put(sheet, 0, 0), Check.NONE);
        Check.due("move " + sheet, new ApronStrings().move(sheet, 0, sheet, 0, 0), Check.NONE);
      }
    });
    Edge.of(1, "no IMAGE", () -> {
      Check.due("restore()", new ApronStrings().restore(), Check.NONE);
      Check.due("image()", new ApronStrings().image(), 1);
    });
  }

  private static void one() {
    Edge.beyond(2, "km", 0, 69, Edge::some, (x, v) -> x.one(v, 0, 5, 5));
    Edge.beyond(2, "mother, of three people,", -1, 2, Edge::some, (x, v) -> x.one(0, v, 5, 5));
    Edge.beyond(2, "mother, of nobody,", -1, -1, Edge::fresh, (x, v) -> x.one(0, v, 5, 5));
    Edge.beyond(2, "cell", 0, 63, Edge::some, (x, v) -> x.one(0, 0, v, 5));
    Edge.beyond(2, "cell without a mother", 0, 63, Edge::some, (x, v) -> x.one(0, -1, v, 5));
    Edge.beyond(2, "spare", 0, 99, Edge::some, (x, v) -> x.one(0, 0, 5, v));
    Edge.beyond(2, "spare without a mother", 0, 99, Edge::some, (x, v) -> x.one(0, -1, 5, v));
    Edge.refused(2, "all of them beyond", Edge::some, Check.BEYOND, x -> x.one(70, 3, 64, 100));
    Edge.refused(2, "a ninth of PEOPLE", Edge::full, Check.FULL, x -> x.one(0, 0, 5, 5));
    Edge.refused(2, "a ninth without a mother", Edge::full, Check.FULL, x -> x.one(69, -1, 63, 99));
    Edge.refused(2, "a ninth of the eighth", Edge::full, Check.FULL, x -> x.one(0, 7, 0, 0));
    Edge.beyond(2, "BEYOND ahead of FULL, km", 0, 69, Edge::full, (x, v) -> x.one(v, 0, 5, 5));
    Edge.beyond(2, "BEYOND ahead of FULL, mother", -1, 7, Edge::full, (x, v) -> x.one(0, v, 5, 5));
    Edge.beyond(2, "BEYOND ahead of FULL, cell", 0, 63, Edge::full, (x, v) -> x.one(0, 0, v, 5));
    Edge.beyond(2, "BEYOND ahead of FULL, spare", 0, 99, Edge::full, (x, v) -> x.one(0, 0, 5, v));
  }

  private static void is(ApronStrings x, int one, int... want) {
    for (int what = 0; what < want.length; what++) {
      Check.due("oneIs(" + one + ", " + what + ")", x.oneIs(one, what), want[what]);
    }
  }

  private static void oneTaken() {
    Edge.of(2, "km from 0 to 69", () -> {
      for (int km = 0; km <= 69; km++) {
        ApronStrings x = new ApronStrings();
        Check.due("km " + km, x.one(km, -1, 0, 0), 0);
        is(x, 0, km / 10, km % 10, -1, 0, 0, 0, 0);
      }
    });
    Edge.of(2, "cell 0 and 63, OUT 63", () -> {
      ApronStrings x = new ApronStrings();
      Check.due("at 63", x.one(0, -1, 63, 0), 0);
      Check.due("at 0", x.one(0, 0, 0, 0), 1);
      Check.due("at 63", x.one(0, 1, 63, 99), 2);
      is(x, 0, 0, 0, -1, 63, 0, 0, 0);
      is(x, 1, 0, 0, 0, 0, 63, 0, 63);
      is(x, 2, 0, 0, 1, 63, 63, 99, 63);
    });
    Edge.of(2, "OUT 0, SPARE 0 and 99", () -> {
      ApronStrings x = new ApronStrings();
      x.one(0, -1, 7, 0);
      Check.due("spare 0", x.one(0, 0, 7, 0), 1);
      Check.due("spare 99", x.one(0, 0, 7, 99), 2);
      is(x, 1, 0, 0, 0, 7, 0, 0, 0);
      is(x, 2, 0, 0, 0, 7, 0, 99, 0);
      Check.due("strings", x.count(3), 6);
    });
    Edge.of(2, "SPARE of one without a STRING is 0", () -> {
      ApronStrings x = new ApronStrings();
      Check.due("spare 99", x.one(0, -1, 7, 99), 0);
      is(x, 0, 0, 0, -1, 7, 0, 0, 0);
      Check.due("count(5)", x.count(5), 0);
    });
    Edge.of(2, "eight PEOPLE, each of the one ahead", () -> {
      ApronStrings x = new ApronStrings();
      for (int i = 0; i < 8; i++) {
        Check.due("number " + i, x.one(0, i - 1, i, 1), i);
        Check.due("count(0)", x.count(0), i + 1);
        Check.due("its mother", x.oneIs(i, 2), i - 1);
      }
      Check.due("a ninth", x.one(0, 7, 8, 1), Check.FULL);
      Check.due("count(0)", x.count(0), 8);
    });
    Edge.of(2, "STRINGS that are cut leave no room", () -> {
      ApronStrings x = Edge.full();
      for (int i = 1; i < 7; i++) x.cut(i);
      Check.due("a ninth", x.one(0, -1, 5, 5), Check.FULL);
    });
  }

  private static void oneIs() {
    for (int what = 0; what < 9; what++) {
      int asked = what;
      Edge.beyond(3, "what " + what + ", one of three", 0, 2, Edge::some, (x, v) -> x.oneIs(v, asked));
      Edge.refused(3, "what " + what + " of nobody", Edge::fresh, Check.BEYOND, x -> x.oneIs(0, asked));
    }
    Edge.beyond(3, "one of eight", 0, 7, Edge::full, (x, v) -> x.oneIs(v, 0));
    Edge.beyond(3, "what", 0, 8, Edge::full, (x, v) -> x.oneIs(7, v));
    Edge.refused(3, "one and what are beyond", Edge::some, Check.BEYOND, x -> x.oneIs(3, 9));
  }

  private static void leastAndMost() {
    Edge.of(3, "the least of each", () -> {
      ApronStrings x = new ApronStrings();
      x.one(0, -1, 0, 0);
      x.one(30, 0, 0, 0);
      is(x, 0, 0, 0, -1, 0, 0, 0, 0, 0, 2);
      is(x, 1, 3, 0, 0, 0, 0, 0, 0, 2, 0);
    });
    Edge.of(3, "the greatest of each", () -> {
      ApronStrings x = new ApronStrings();
      for (int i = 0; i < 7; i++) x.one(0, i - 1, 0, 0);
      x.one(69, 6, 63, 99);
      x.day(2);
      is(x, 7, 6, 9, 6, 63, 63, 99, 63, 3, 1);
      x.become(7, 49);
      Check.due("oneIs(7, 8)", x.oneIs(7, 8), 9);
    });
    Edge.of(3, "ends nearer than it is OUT", () -> {
      ApronStrings x = Check.still();
      x.one(0, -1, 10, 0);
      x.one(0, 0, 12, 4);
      x.list(0, 1, 0);
      x.days(1);
      is(x, 1, 0, 0, 0, 10, 2, 4, 0);
    });
    Edge.of(3, "ITS MOTHER is -1 when it is cut", () -> {
      ApronStrings x = Edge.some();
      x.cut(1);
      is(x, 1, 1, 3, -1, 33, 0, 0, 0);
      is(x, 2, 2, 5, 1, 28, 5, 1, 5);
    });
  }

  private static ApronStrings single(int km, int day) {
    ApronStrings x = new ApronStrings();
    x.one(km, -1, 30, 0);
    x.day(day);
    return x;
  }

  private static ApronStrings child(int km, int spare) {
    ApronStrings x = new ApronStrings();
    x.one(0, -1, 30, 0);
    x.one(km, 0, 30, spare);
    return x;
  }

  private static void yields() {
    Edge.of(3, "a CLERK with nothing, one, and all to SPARE", () -> {
      Check.due("without a string", single(29, 0).oneIs(0, 7), 0);
      Check.due("0", child(29, 0).oneIs(1, 7), 0);
      Check.due("1", child(20, 1).oneIs(1, 7), 3);
      Check.due("99", child(20, 99).oneIs(1, 7), 3);
    });
    Edge.of(3, "a BOY with m 4 and 5", () -> {
      int[] held = {50, 54};
      for (int km : held) {
        Check.due(km + " with 0", child(km, 0).oneIs(1, 7), 2);
        Check.due(km + " with 99", child(km, 99).oneIs(1, 7), 2);
        Check.due(km + " without", single(km, 0).oneIs(0, 7), 2);
      }
      int[] clerks = {55, 59};
      for (int km : clerks) {
        Check.due(km + " with 0", child(km, 0).oneIs(1, 7), 0);
        Check.due(km + " with 1", child(km, 1).oneIs(1, 7), 3);
        Check.due(km + " without", single(km, 0).oneIs(0, 7), 0);
      }
    });
    Edge.of(3, "ARCTIC with no CHILDREN, one, seven, and none any more", () -> {
      ApronStrings x = single(45, 1);
      Check.due("none", x.oneIs(0, 7), 1);
      for (int i = 1; i < 8; i++) {
        x.one(0, 0, 3, 0);
        Check.due("with " + i, x.oneIs(0, 7), 0);
      }
      for (int i = 1; i < 8; i++) {
        Check.due("ahead of cut " + i, x.oneIs(0, 7), 0);
        x.cut(i);
      }
      Check.due("none any more", x.oneIs(0, 7), 1);
      x = child(45, 9);
      Check.due("a child itself", x.oneIs(1, 7), 1);
      x.one(0, 0, 3, 0);
      Check.due("a sister is no child", x.oneIs(1, 7), 1);
      x.one(0, 1, 3, 0);
      Check.due("the last of PEOPLE is one", x.oneIs(1, 7), 0);
    });
    Edge.of(3, "COPPER by DAY and m", () -> {
      int[] days = {0, 1, 2, 3, 4, 9998, 9999};
      for (int day : days) {
        for (int m = 0; m < 10; m++) {
          Check.due("day " + day + ", m " + m, single(60 + m, day).oneIs(0, 7), (day + m) % 4);
        }
      }
    });
    Edge.of(3, "MOTHER, BRIDE, GRANNY whatever they have", () -> {
      int[] want = {0, 1, -1, 2};
      for (int kind = 0; kind < 4; kind++) {
        for (int m = 0; m < 10 && kind != 2; m += 9) {
          Check.due(kind + " with 0", child(10 * kind + m, 0).oneIs(1, 7), want[kind]);
          Check.due(kind + " with 99", child(10 * kind + m, 99).oneIs(1, 7), want[kind]);
          Check.due(kind + " without", single(10 * kind + m, 9999).oneIs(0, 7), want[kind]);
        }
      }
    });
  }

  private static void goesOn(int km, int day, int want) {
    Check.due("km " + km + " on day " + day, single(km, day).oneIs(0, 8), want);
  }

  private static void steps() {
    Edge.of(3, "a fifth of m, cut", () -> {
      for (int m = 0; m < 10; m++) goesOn(30 + m, 0, m < 5 ? 0 : 1);
    });
    Edge.of(3, "BRIDE in odd DAYS", () -> {
      goesOn(10, 0, 2);
      goesOn(10, 1, 3);
      goesOn(19, 9998, 2);
      goesOn(19, 9999, 3);
    });
    Edge.of(3, "ARCTIC with m 0 to 9", () -> {
      for (int m = 0; m < 10; m++) goesOn(40 + m, 0, Math.min(9, 2 + m));
      for (int m = 0; m < 10; m++) goesOn(40 + m, 9999, Math.min(9, 3 + m));
    });
    Edge.of(3, "the others, on every DAY and with every m", () -> {
      int[] kms = {0, 9, 20, 29, 50, 54, 55, 59, 60, 69};
      int[] want = {2, 2, 1, 1, 4, 4, 4, 4, 1, 1};
      for (int i = 0; i < kms.length; i++) {
        goesOn(kms[i], 0, want[i]);
        goesOn(kms[i], 1, want[i]);
        goesOn(kms[i], 9999, want[i]);
      }
    });
  }

  private static void does() {
    Edge.of(3, "DOES: the rest by 4, below 0, too", () -> {
      String[] texts = {"0", "3", "4", "9999", "0-1", "0-3", "0-4", "0-5", "0-9999"};
      int[] want = {0, 3, 0, 3, 3, 1, 0, 3, 1};
      for (int i = 0; i < texts.length; i++) {
        ApronStrings x = single(10, 0);
        Check.text(x, 0, texts[i]);
        Check.due("by " + texts[i], x.oneIs(0, 7), want[i]);
      }
    });
    Edge.of(3, "y, s and d at their least and greatest", () -> {
      ApronStrings x = child(20, 99);
      Check.text(x, 0, "y");
      Check.due("y is 3", x.oneIs(1, 7), 3);
      Check.text(x, 0, "s=99");
      Check.due("s is 99", x.oneIs(1, 7), 1);
      Check.due("and 0 without a string", x.oneIs(0, 7), 0);
      x.reel(1, 0);
      Check.text(x, 0, "y*9+s*9+d=0");
      Check.due("all are 0", x.oneIs(1, 7), 1);
      int[] days = {0, 7, 8, 15, 9991, 9992, 9999};
      int[] rests = {0, 7, 0, 7, 7, 0, 7};
      for (int i = 0; i < days.length; i++) {
        x.day(days[i]);
        Check.text(x, 0, "d=" + rests[i]);
        Check.due("d on day " + days[i], x.oneIs(1, 7), 1);
      }
    });
    Edge.of(3, "DOES without a TEXT again", () -> {
      ApronStrings x = single(10, 0);
      Check.text(x, 0, "2");
      Check.due("by the text", x.oneIs(0, 7), 2);
      x.untell(0);
      Check.due("without", x.oneIs(0, 7), 1);
    });
  }

  private static void goes() {
    Edge.of(3, "GOES: held within 0 and 9", () -> {
      String[] texts = {"0", "9", "10", "9999", "0-1", "0-9999", "1-1", "5+5", "5+4"};
      int[] want = {0, 9, 9, 9, 0, 0, 0, 9, 9};
      for (int i = 0; i < texts.length; i++) {
        ApronStrings x = single(10, 0);
        Check.text(x, 1, texts[i]);
        Check.due("by " + texts[i], x.oneIs(0, 8), want[i]);
      }
    });
    Edge.of(3, "s, o and d at their least and greatest", () -> {
      ApronStrings x = new ApronStrings();
      x.one(49, -1, 0, 0);
      x.one(30, 0, 63, 5);
      x.day(9999);
      Check.text(x, 1, "s=12");
      Check.due("s is 12, not held", x.oneIs(0, 8), 1);
      Check.text(x, 1, "s=0");
      Check.due("s is 0", x.oneIs(1, 8), 1);
      Check.text(x, 1, "o=63");
      Check.due("o is 63", x.oneIs(1, 8), 1);
      Check.due("and not without a string", x.oneIs(0, 8), 0);
      Check.text(x, 1, "o=0");
      Check.due("o is 0 without a string", x.oneIs(0, 8), 1);
      Check.text(x, 1, "d");
      Check.due("d is 7", x.oneIs(0, 8), 7);
      x.day(9992);
      Check.due("d is 0", x.oneIs(0, 8), 0);
    });
    Edge.of(3, "GOES without a TEXT again", () -> {
      ApronStrings x = single(10, 0);
      Check.text(x, 1, "7");
      Check.due("by the text", x.oneIs(0, 8), 7);
      x.untell(1);
      Check.due("without", x.oneIs(0, 8), 2);
    });
  }

  private static void become() {
    Edge.beyond(4, "one of three", 0, 2, Edge::some, (x, v) -> x.become(v, 5));
    Edge.beyond(4, "one of eight", 0, 7, Edge::full, (x, v) -> x.become(v, 5));
    Edge.beyond(4, "km", 0, 69, Edge::some, (x, v) -> x.become(1, v));
    Edge.refused(4, "nobody", Edge::fresh, Check.BEYOND, x -> x.become(0, 0));
    Edge.refused(4, "one and km are beyond", Edge::some, Check.BEYOND, x -> x.become(3, 70));
    Edge.of(4, "km 0 and 69, for the first and the last", () -> {
      ApronStrings x = Edge.full();
      Check.due("become(7, 69)", x.become(7, 69), 0);
      is(x, 7, 6, 9, -1, 63, 0, 0, 0);
      Check.due("become(7, 0)", x.become(7, 0), 6);
      is(x, 7, 0, 0, -1, 63, 0, 0, 0);
      Check.due("become(0, 69)", x.become(0, 69), 0);
      is(x, 0, 6, 9, -1, 30, 0, 0, 0);
    });
    Edge.of(4, "every KIND and m, behind each other", () -> {
      ApronStrings x = Edge.some();
      int was = 2;
      for (int km = 69; km >= 0; km--) {
        Check.due("become(2, " + km + ")", x.become(2, km), was);
        is(x, 2, km / 10, km % 10);
        was = km / 10;
      }
      is(x, 2, 0, 0, 1, 28, 5, 1, 5);
    });
    Edge.of(4, "the same again", () -> {
      ApronStrings x = Edge.some();
      Check.due("become(1, 13)", x.become(1, 13), 1);
      Edge.alike(x, Edge.some());
    });
  }

  private static void as() {
    Edge.beyond(5, "one of three", 0, 2, Edge::some, (x, v) -> x.as(v, 0));
    Edge.beyond(5, "one of eight", 0, 7, Edge::full, (x, v) -> x.as(v, 0));
    Edge.beyond(5, "kind", 0, 6, Edge::some, (x, v) -> x.as(1, v));
    Edge.beyond(5, "BEYOND ahead of KIND, one", 0, 2, Edge::some, (x, v) -> x.as(v, 6));
    Edge.refused(5, "nobody", Edge::fresh, Check.BEYOND, x -> x.as(0, 0));
    int[] under = {1, 3, 5, 9, 19, 37, 65};
    for (int kind = 0; kind < 7; kind++) {
      for (int as = 0; as < 7; as++) {
        int km = 10 * kind;
        int asked = as;
        if ((under[kind] >> as & 1) == 0) {
          Edge.refused(5, "a " + kind + " is no " + as, () -> single(km + 9, 3), Check.KIND, x -> x.as(0, asked));
        } else {
          Edge.of(5, "a " + kind + " is a " + as, () -> {
            Check.due("m 0", single(km, 0).as(0, asked), 0);
            Check.due("m 9", single(km + 9, 0).as(0, asked), 9);
          });
        }
      }
    }
  }

  private static void reel() {
    Edge.beyond(6, "one of three", 0, 2, Edge::some, (x, v) -> x.reel(v, 5));
    Edge.beyond(6, "one of eight", 0, 7, Edge::full, (x, v) -> x.reel(v, 5));
    Edge.beyond(6, "v", 0, 99, Edge::some, (x, v) -> x.reel(1, v));
    Edge.beyond(6, "BEYOND ahead of STATE, v", 0, 99, Edge::some, (x, v) -> x.reel(0, v));
    Edge.refused(6, "nobody", Edge::fresh, Check.BEYOND, x -> x.reel(0, 0));
    Edge.refused(6, "no STRING", Edge::some, Check.STATE, x -> x.reel(0, 0));
    Edge.refused(6, "no STRING, the last of eight", Edge::full, Check.STATE, x -> x.reel(7, 99));
    Edge.refused(6, "a STRING that is cut", PeopleEdges::cutOnce, Check.STATE, x -> x.reel(1, 5));
    Edge.of(6, "v 0 and 99", () -> {
      ApronStrings x = Edge.some();
      Check.due("reel(1, 99)", x.reel(1, 99), 2);
      Check.due("reel(1, 0)", x.reel(1, 0), 99);
      Check.due("reel(1, 0)", x.reel(1, 0), 0);
      Check.due("reel(1, 1)", x.reel(1, 1), 0);
      is(x, 1, 1, 3, 0, 33, 3, 1, 3);
      is(x, 2, 2, 5, 1, 28, 5, 1, 5);
    });
  }

  private static ApronStrings cutOnce() {
    ApronStrings x = Edge.some();
    x.cut(1);
    return x;
  }

  private static void cut() {
    Edge.beyond(7, "one of three", 0, 2, Edge::some, (x, v) -> x.cut(v));
    Edge.beyond(7, "one of eight", 0, 7, Edge::full, (x, v) -> x.cut(v));
    Edge.refused(7, "nobody", Edge::fresh, Check.BEYOND, x -> x.cut(0));
    Edge.refused(7, "no STRING", Edge::some, Check.STATE, x -> x.cut(0));
    Edge.refused(7, "no STRING, the last of eight", Edge::full, Check.STATE, x -> x.cut(7));
    Edge.refused(7, "a STRING that is cut", PeopleEdges::cutOnce, Check.STATE, x -> x.cut(1));
    Edge.of(7, "of the least and the greatest mother, with all to SPARE", () -> {
      ApronStrings x = new ApronStrings();
      for (int i = 0; i < 8; i++) x.one(0, i - 1, i % 2 * 63, 99);
      Check.due("cut(7)", x.cut(7), 6);
      Check.due("cut(1)", x.cut(1), 0);
      is(x, 7, 0, 0, -1, 63, 0, 0, 0);
      is(x, 1, 0, 0, -1, 63, 0, 0, 0);
      is(x, 2, 0, 0, 1, 0, 63, 99, 63);
      Check.due("strings", x.count(3), 124);
      Check.due("CUTS stay", x.count(2), 0);
    });
  }

  private static void list() {
    Edge.beyond(8, "place", 0, 5, Edge::some, (x, v) -> x.list(v, 0, 0));
    Edge.beyond(8, "one", 0, 7, Edge::some, (x, v) -> x.list(0, v, 0));
    Edge.beyond(8, "one, with eight people,", 0, 7, Edge::full, (x, v) -> x.list(0, v, 0));
    Edge.beyond(8, "way", 0, 1, Edge::some, (x, v) -> x.list(0, 0, v));
    Edge.refused(8, "all of them beyond", Edge::some, Check.BEYOND, x -> x.list(6, 8, 2));
    Edge.of(8, "one 0 and 7, there or not, by both WAYS", () -> {
      ApronStrings x = new ApronStrings();
      for (int place = 0; place < 6; place++) {
        Check.due("list(" + place + ", 7, 1)", x.list(place, 7, 1), 10 * place + 1);
        Check.due("list(" + place + ", 7, 0)", x.list(place, 7, 0), 71);
        Check.due("list(" + place + ", 0, 1)", x.list(place, 0, 1), 70);
        Check.due("list(" + place + ", 0, 0)", x.list(place, 0, 0), 1);
        Check.due("list(" + place + ", 0, 0)", x.list(place, 0, 0), 0);
        Check.due("the next place stays", x.listed((place + 1) % 6), place == 5 ? 0 : 10 * place + 11);
      }
      Check.due("nobody for all that", x.count(0), 0);
    });
  }

  private static void listed() {
    Edge.beyond(9, "place", 0, 5, Edge::some, (x, v) -> x.listed(v));
    Edge.beyond(9, "place, of nobody", 0, 5, Edge::fresh, (x, v) -> x.listed(v));
    Edge.of(9, "the least and the greatest in the first and the last place", () -> {
      for (int place = 0; place < 6; place += 5) {
        for (int told = 0; told < 80; told++) {
          if (told % 10 > 1) continue;
          ApronStrings x = new ApronStrings();
          x.list(place, told / 10, told % 10);
          Check.due("listed(" + place + ")", x.listed(place), told);
        }
      }
    });
  }
}
