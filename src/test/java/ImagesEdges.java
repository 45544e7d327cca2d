/** The boundaries of promises 37 and 38. */
final class ImagesEdges {
  private ImagesEdges() {}

  static void all() {
    image();
    kept();
    notKept();
    restoreRefused();
    restore();
    inPlace();
  }

  private static void image() {
    Edge.of(37, "how often, from the first on", () -> {
      ApronStrings x = new ApronStrings();
      for (int i = 1; i <= 500; i++) Check.due("image " + i, x.image(), i);
    });
    Edge.of(37, "how often is not kept, nor set back by restore()", () -> {
      ApronStrings x = new ApronStrings();
      for (int i = 1; i <= 5; i++) {
        Check.due("image", x.image(), i);
        x.restore();
        x.restore();
      }
    });
    Edge.of(37, "nothing else is changed by it", () -> {
      ApronStrings x = Edge.full();
      x.image();
      ApronStrings y = Edge.full();
      y.image();
      Edge.toldOnce(x, y, 0);
      Check.due("count(0)", x.count(0), 8);
      Edge.alike(x, y);
    });
  }

  /** All that an IMAGE keeps becomes otherwise; SHEETS and THE TRACE stay. */
  private static void change(ApronStrings x) {
    int last = x.count(0) - 1;
    x.become(0, 69);
    x.become(last, 42);
    x.reel(1, 77);
    x.reel(last, 78);
    x.one(31, -1, 9, 9);
    x.cut(1);
    for (int place = 0; place < 6; place++) x.list(place, 5 - place, 0);
    x.day(100);
    x.loose(20);
    x.seed(4711);
    Check.text(x, 0, "3");
    x.text(0);
    Check.text(x, 0, "3");
    Check.text(x, 1, "8");
    x.feed(0x38L, 1);
    x.check();
    x.tell(9);
    x.tell(9);
    x.tell(9);
  }

  private static void backAs(Edge.Maker maker) {
    ApronStrings x = maker.made();
    ApronStrings y = maker.made();
    x.image();
    y.image();
    change(x);
    Check.due("restore()", x.restore(), y.count(1));
    Edge.alike(x, y);
  }

  private static ApronStrings cutOnes() {
    ApronStrings x = Check.still();
    x.one(10, -1, 30, 0);
    for (int i = 1; i < 8; i++) x.one(10, 0, 30, 1);
    x.list(0, 1, 1);
    x.list(1, 2, 0);
    x.days(2);
    return x;
  }

  private static void kept() {
    Edge.of(37, "nobody, no TEXTS, THE TAPE of 0 bytes, no number that waits", () -> backAs(Edge::fresh));
    Edge.of(37, "eight PEOPLE, THE TAPE of 60 bytes, 24 numbers that wait, DAY 9999", () -> backAs(Edge::full));
    Edge.of(37, "some of each", () -> backAs(Edge::some));
    Edge.of(37, "CUTS, and STRINGS that were cut", () -> {
      Check.due("cuts", cutOnes().count(2), 2);
      backAs(ImagesEdges::cutOnes);
    });
    Edge.of(37, "TEXTS of 60 bytes, and z", () -> backAs(() -> {
      ApronStrings x = Edge.full();
      x.text(1);
      Check.text(x, 0, "(s+1)*(s+2)*(s+3)*(s+4)*(s+5)*(s+6)*(s+7)*(s+8)*(s+9)*(s+10)");
      x.seed(Edge.LEAST);
      return x;
    }));
    Edge.of(37, "no TEXT, where there is one by then", () -> {
      ApronStrings x = new ApronStrings();
      x.image();
      Check.text(x, 0, "3");
      Check.text(x, 1, "7");
      x.restore();
      Check.due("law(0)", x.law(0, 1, 0, 0), 1);
      Check.due("law(1)", x.law(1, 1, 0, 0), 1);
      Check.due("untell", x.untell(0) + x.untell(1), 0);
    });
    Edge.of(37, "a TEXT, where there is none by then", () -> {
      ApronStrings x = new ApronStrings();
      Check.text(x, 0, "3");
      Check.text(x, 1, "7");
      x.image();
      x.untell(0);
      x.untell(1);
      x.restore();
      Check.due("law(0)", x.law(0, 1, 0, 0), 3);
      Check.due("law(1)", x.law(1, 1, 0, 0), 7);
      Check.due("untell", x.untell(0) + x.untell(1), 2);
    });
  }

  private static void notKept() {
    Edge.of(37, "SHEETS stay: numbers, a missing one, one of 24", () -> {
      ApronStrings x = Edge.some();
      x.image();
      x.put(0, 2, 55);
      x.sheet(1, 0, 0);
      x.sheet(2, 32, 24);
      x.put(2, 23, 44);
      x.restore();
      ApronStrings y = Edge.some();
      y.image();
      y.put(0, 2, 55);
      y.sheet(1, 0, 0);
      y.sheet(2, 32, 24);
      y.put(2, 23, 44);
      Edge.alike(x, y);
    });
    Edge.of(37, "THE TRACE stays: none, one, six BODIES, one that parted", () -> {
      ApronStrings x = new ApronStrings();
      x.image();
      x.restore();
      Check.due("none", x.count(8), 0);
      x = Edge.full();
      x.image();
      x.voice(7, 0, 1);
      x.restore();
      Check.due("one", x.count(8), 1);
      Check.due("body(0)", x.body(0), 10);
      x.image();
      x.voice(4, 2, 1);
      x.restore();
      Check.due("six", x.count(8), 6);
      x.voice(7, 3, 1);
      x.restore();
      Check.due("body(0)", x.body(0), 13);
      Check.due("body(1)", x.body(1), Check.NONE);
    });
    Edge.of(37, "what told() tells stays: each ERROR", () -> {
      ApronStrings x = new ApronStrings();
      x.image();
      errors(x);
      x.restore();
      for (int k = 1; k <= 6; k++) Check.due("told " + k, x.told(k), 1);
      x.image();
      errors(x);
      x.restore();
      for (int k = 1; k <= 6; k++) Check.due("told " + k, x.told(k), 2);
    });
  }

  /** Each ERROR once more. */
  private static void errors(ApronStrings x) {
    x.one(0, -1, 0, 0);
    x.listed(6);
    x.body(99);
    x.cut(0);
    for (int i = 0; i < 25; i++) x.tell(0);
    x.as(0, 1);
    x.voice(0, 3, 1);
  }

  private static void restoreRefused() {
    Edge.refused(38, "no IMAGE, of a new object", Edge::fresh, Check.NONE, x -> x.restore());
    Edge.refused(38, "no IMAGE, of one that is used", ImagesEdges::cutOnes, Check.NONE, x -> x.restore());
    Edge.of(38, "no IMAGE, twice, and one then", () -> {
      ApronStrings x = cutOnes();
      Check.due("restore()", x.restore(), Check.NONE);
      Check.due("restore()", x.restore(), Check.NONE);
      Check.due("told(2)", x.told(2), 2);
      Check.due("image()", x.image(), 1);
      Check.due("restore()", x.restore(), 2);
    });
  }

  private static void restore() {
    Edge.of(38, "DAY 0 and 9999", () -> {
      ApronStrings x = new ApronStrings();
      x.image();
      x.day(9999);
      Check.due("restore()", x.restore(), 0);
      x.day(9999);
      x.image();
      x.day(0);
      Check.due("restore()", x.restore(), 9999);
      Check.due("count(1)", x.count(1), 9999);
      Check.due("days(1)", x.days(1), Check.STATE);
    });
    Edge.of(38, "at once, and twice: all is as it is", () -> {
      ApronStrings x = Edge.full();
      ApronStrings y = Edge.full();
      x.image();
      y.image();
      Check.due("restore()", x.restore(), 9999);
      Check.due("restore()", x.restore(), 9999);
      Edge.alike(x, y);
    });
    Edge.of(38, "it stays, whatever is done to what was restored", () -> {
      ApronStrings x = Edge.some();
      x.image();
      for (int i = 0; i < 3; i++) {
        x.restore();
        change(x);
      }
      Check.due("restore()", x.restore(), 5);
      ApronStrings y = Edge.some();
      y.image();
      Edge.alike(x, y);
    });
  }

  private static void inPlace() {
    Edge.of(38, "the latest IMAGE alone: eight PEOPLE, then nobody, then eight", () -> {
      ApronStrings x = new ApronStrings();
      x.image();
      for (int i = 0; i < 8; i++) x.one(0, i - 1, i, 9);
      Check.text(x, 1, "s+1");
      x.restore();
      Check.due("nobody", x.count(0), 0);
      Check.due("no text", x.untell(1), 0);
      Check.due("the first again", x.one(69, -1, 63, 0), 0);
      for (int i = 1; i < 8; i++) x.one(69, 0, 63, i);
      Check.due("image()", x.image(), 2);
      x.cut(7);
      x.become(0, 0);
      x.restore();
      Check.due("eight", x.count(0), 8);
      Check.due("kind", x.oneIs(0, 0), 6);
      Check.due("spare", x.oneIs(7, 5), 7);
      Check.due("strings", x.count(3), 254);
      Check.due("a ninth", x.one(0, -1, 0, 0), Check.FULL);
    });
    Edge.of(38, "CUTS go back, too", () -> {
      ApronStrings x = Check.still();
      x.one(10, -1, 30, 0);
      x.one(0, 0, 30, 0);
      x.list(0, 1, 1);
      x.image();
      for (int i = 0; i < 3; i++) {
        Check.due("days(1)", x.days(1), 1);
        Check.due("restore()", x.restore(), 0);
        Check.due("count(2)", x.count(2), 0);
      }
    });
  }
}
