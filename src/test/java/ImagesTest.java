/** Promises 37 and 38. */
public final class ImagesTest {
  private ImagesTest() {}

  public static void main(String[] args) {
    Check.about("37");
    ApronStrings x = new ApronStrings();
    Check.due("restore()", x.restore(), Check.NONE);
    x.one(15, -1, 10, 0);
    x.one(27, 0, 20, 3);
    x.list(2, 5, 0);
    x.day(77);
    x.seed(99);
    Check.text(x, 0, "y+1");
    Check.text(x, 1, "s*2");
    Check.feed(x, "o+d");
    x.tell(6);
    x.tell(99);
    x.sheet(0, 8, 2);
    x.voice(1, 1, 5);
    Check.due("image()", x.image(), 1);
    change(x);
    Check.about("38");
    Check.due("restore()", x.restore(), 77);
    back(x);
    change(x);
    Check.due("restore() again, for the image stays", x.restore(), 77);
    back(x);
    theTape(x);
    Check.about("37");
    Check.due("how often stays beside restore()", x.image(), 2);
    x.restore();
    Check.due("image()", x.image(), 3);
    again();
    Check.end("ImagesTest");
  }

  private static void change(ApronStrings x) {
    x.become(0, 69);
    x.become(1, 0);
    x.reel(1, 9);
    x.one(0, 1, 30, 1);
    x.list(2, 0, 1);
    x.loose(3);
    x.untell(0);
    x.text(1);
    Check.text(x, 1, "1");
    x.check();
    x.tell(5);
    x.tell(5);
    x.tell(5);
    x.cut(1);
    x.sheet(0, 16, 3);
    x.sheet(1, 32, 1);
    x.voice(0, 0, 5);
    x.told(9);
  }

  private static void back(ApronStrings x) {
    int[] first = {1, 5, -1, 10, 0, 0, 0, 2, 6};
    int[] second = {2, 7, 0, 20, 10, 3, 10, 0, 2};
    for (int what = 0; what < 9; what++) {
      Check.due("oneIs(0, " + what + ")", x.oneIs(0, what), first[what]);
      Check.due("oneIs(1, " + what + ")", x.oneIs(1, what), second[what]);
    }
    int[] counts = {2, 77, 0, 2, 10, 3, 3, 2};
    for (int what = 0; what < 8; what++) Check.due("count " + what, x.count(what), counts[what]);
    Check.due("count(8), which stays", x.count(8), 1);
    Check.due("body(0), which stays", x.body(0), 70);
    Check.due("count(9)", x.count(9), 99);
    int[] listed = {1, 11, 50, 31, 41, 51};
    for (int place = 0; place < 6; place++) Check.due("listed " + place, x.listed(place), listed[place]);
    Check.due("law(0)", x.law(0, 1, 0, 0), 2);
    Check.due("law(1)", x.law(1, 2, 0, 0), 4);
    Check.due("sheet 0, which stays", x.put(0, 2, 0), 1);
    Check.due("sheet 1, which stays", x.put(1, 0, 0), 1);
  }

  private static void theTape(ApronStrings x) {
    int told = x.told(1);
    Check.due("told(1) stays", told, 2);
    Check.due("what waits", x.check(), 2);
    Check.due("the tape", x.text(1), 1);
    Check.due("is o+d", x.law(1, 0, 3, 4), 7);
    Check.due("restore()", x.restore(), 77);
    Check.due("the text is as the image has it", x.law(1, 2, 3, 4), 4);
    x.day(50);
    x.cut(1);
  }

  /** An IMAGE of a new object, in place of which another one comes; CUTS are kept as well. */
  private static void again() {
    ApronStrings x = new ApronStrings();
    x.image();
    x.one(10, -1, 10, 0);
    x.one(0, 0, 10, 0);
    x.list(0, 1, 1);
    Check.due("days(1)", x.days(1), 1);
    x.image();
    x.restore();
    Check.due("cuts", x.count(2), 1);
    Check.due("people", x.count(0), 2);
    Check.due("third", x.image(), 3);
    x = new ApronStrings();
    x.image();
    x.one(10, -1, 10, 0);
    x.one(0, 0, 10, 0);
    x.list(0, 1, 1);
    Check.text(x, 0, "1");
    x.days(1);
    Check.due("restore()", x.restore(), 0);
    Check.due("nobody", x.count(0), 0);
    Check.due("no cuts", x.count(2), 0);
    Check.due("no text", x.untell(0), 0);
    Check.due("listed(0)", x.listed(0), 1);
    Check.due("number of the next", x.one(0, -1, 3, 0), 0);
    Check.due("told(2)", x.told(2), 0);
  }
}
