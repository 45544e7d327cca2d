/** Counts answers that are as due and prints those that are not. */
final class Check {
  static final int LOW = -1000000000;
  static final int BEYOND = LOW - 1;
  static final int NONE = LOW - 2;
  static final int STATE = LOW - 3;
  static final int FULL = LOW - 4;
  static final int KIND = LOW - 5;
  static final int PARTED = LOW - 6;

  private static String about = "";
  private static int passed;
  private static int failed;

  private Check() {}

  /** What the answers that follow are about: a promise, mostly. */
  static void about(String what) {
    about = what;
  }

  static void due(String call, long got, long want) {
    if (got == want) {
      passed++;
      return;
    }
    failed++;
    System.out.println(about + ": " + call + " answered " + got + ", due is " + want);
  }

  static void end(String test) {
    System.out.println(test + ": " + passed + " passed, " + failed + " failed");
    if (failed > 0 || passed == 0) System.exit(1);
  }

  /** A new object in which nobody goes on any day but those whom a test lists. */
  static ApronStrings still() {
    ApronStrings x = new ApronStrings();
    for (int place = 0; place < 6; place++) x.list(place, 7, 1);
    return x;
  }

  /** Feeds a whole text, eight bytes a call. */
  static int feed(ApronStrings x, String text) {
    int many = x.count(6);
    for (int from = 0; from < text.length(); from += 8) {
      int n = Math.min(8, text.length() - from);
      long word = 0;
      for (int i = n - 1; i >= 0; i--) word = word << 8 | (text.charAt(from + i) & 255);
      many = x.feed(word, n);
    }
    return many;
  }

  static int text(ApronStrings x, int use, String text) {
    feed(x, text);
    return x.text(use);
  }
}
