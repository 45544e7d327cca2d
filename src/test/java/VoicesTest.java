/** Promises 30 and 31, and Term 4. */
public final class VoicesTest {
  private VoicesTest() {}

  public static void main(String[] args) {
    ApronStrings x = new ApronStrings();
    Check.about("30");
    Check.due("nobody", x.voice(0, 0, 0), Check.BEYOND);
    int[] kms = {3, 14, 25, 39, 46, 52, 68, 7};
    for (int km : kms) x.one(km, -1, 5, 0);
    mothers(x);
    brides(x);
    others(x);
    any(x);
    parted(x);
    errors(x);
    Check.end("VoicesTest");
  }

  private static void spoken(ApronStrings x, int one, int voice, int v, int want, int... bodies) {
    Check.about("30");
    String call = "voice(" + one + ", " + voice + ", " + v + ")";
    Check.due(call, x.voice(one, voice, v), want);
    traced(x, call, bodies);
  }

  private static void traced(ApronStrings x, String call, int... bodies) {
    Check.about("31");
    Check.due("bodies of " + call, x.count(8), bodies.length);
    for (int i = 0; i < bodies.length; i++) Check.due("body " + i + " of " + call, x.body(i), bodies[i]);
    Check.due("one body more of " + call, x.body(bodies.length), Check.NONE);
  }

  private static void mothers(ApronStrings x) {
    spoken(x, 0, 0, 5, 5, 10);
    spoken(x, 0, 1, 5, 10, 11, 10);
    spoken(x, 0, 2, 5, 7, 12, 11, 10);
    spoken(x, 0, 3, 7, 2, 13);
    spoken(x, 0, 3, -7, -2, 13);
  }

  private static void brides(ApronStrings x) {
    spoken(x, 1, 0, 5, 2, 20, 10);
    spoken(x, 1, 1, 5, 4, 11, 20, 10);
    spoken(x, 1, 2, 5, 0, 12, 11, 20, 10);
    spoken(x, 1, 3, 9, -1, 21, 13, 11, 20, 10);
    spoken(x, 4, 0, 5, 15, 50, 20, 10);
    spoken(x, 4, 1, 5, 30, 11, 50, 20, 10);
    spoken(x, 4, 2, 5, 28, 51, 12, 11, 50, 20, 10);
    spoken(x, 4, 2, 6, 26, 51, 12, 11, 50, 20, 10);
    spoken(x, 4, 3, 5, 8, 21, 13, 11, 50, 20, 10);
  }

  private static void others(ApronStrings x) {
    spoken(x, 2, 0, 5, 7, 10);
    spoken(x, 2, 1, 5, -14, 30, 11, 10);
    spoken(x, 2, 2, 5, -19, 12, 30, 11, 10);
    spoken(x, 2, 3, 10, 3, 13);
    spoken(x, 3, 0, 5, 8, 10);
    spoken(x, 3, 2, 7, 3, 40, 12, 11, 10);
    spoken(x, 3, 2, -7, -9, 40, 12, 11, 10);
    spoken(x, 3, 1, 7, 20, 11, 10);
    spoken(x, 3, 3, 13, 2, 13);
    spoken(x, 5, 0, 5, 10, 10);
    spoken(x, 5, 1, 5, -22, 60, 30, 11, 10);
    spoken(x, 5, 2, 5, -24, 12, 60, 30, 11, 10);
    spoken(x, 5, 3, 10, -3, 13);
    spoken(x, 6, 0, 5, 9, 70);
    spoken(x, 6, 1, 5, 26, 71, 11, 70);
    spoken(x, 6, 2, 5, 18, 12, 71, 11, 70);
    spoken(x, 6, 3, -7, -3, 13);
  }

  private static void any(ApronStrings x) {
    Check.about("30, any number");
    Check.due("wraps", x.voice(1, 0, Integer.MIN_VALUE), Integer.MAX_VALUE - 2);
    Check.due("wraps", x.voice(5, 1, Integer.MAX_VALUE), -2 * (Integer.MIN_VALUE + 5));
    Check.due("like an error", x.voice(0, 0, Check.BEYOND), Check.BEYOND);
    Check.due("but none", x.told(1), 1);
    x.become(6, 65);
    Check.due("the least by -1", x.voice(6, 3, Integer.MIN_VALUE), Integer.MIN_VALUE);
    x.become(6, 68);
  }

  /** THE TRACE behind PARTED is that of the voice that parted: what began, and no more. */
  private static void parted(ApronStrings x) {
    spoken(x, 2, 1, 5, -14, 30, 11, 10);
    spoken(x, 7, 3, 5, Check.PARTED, 13);
    Check.about("30");
    Check.due("told(6)", x.told(6), 1);
    x.become(7, 17);
    spoken(x, 7, 3, 5, Check.PARTED, 21, 13);
    x.become(4, 44);
    spoken(x, 4, 3, 5, Check.PARTED, 21, 13);
    Check.about("30");
    Check.due("told(6)", x.told(6), 3);
    refused(x, "voice(4, 3, 5) that parted", 21, 13);
    x.become(4, 46);
    spoken(x, 4, 3, 5, 8, 21, 13, 11, 50, 20, 10);
    x.become(7, 7);
    spoken(x, 7, 0, 1, 8, 10);
    partedOnNew();
  }

  private static void partedOnNew() {
    ApronStrings x = new ApronStrings();
    traced(x, "none yet");
    x.one(0, -1, 0, 0);
    traced(x, "none yet");
    spoken(x, 0, 3, 0, Check.PARTED, 13);
    x.image();
    spoken(x, 0, 1, 3, 6, 11, 10);
    x.restore();
    traced(x, "the one ahead of restore()", 11, 10);
    spoken(x, 0, 3, 0, Check.PARTED, 13);
    x.restore();
    traced(x, "the one that parted ahead of restore()", 13);
  }

  private static void errors(ApronStrings x) {
    spoken(x, 2, 1, 5, -14, 30, 11, 10);
    refused(x, "voice(2, 1, 5)", 30, 11, 10);
    Check.about("31");
    Check.due("body(-1)", x.body(-1), Check.NONE);
    Check.due("body(30)", x.body(30), Check.NONE);
    Check.due("body of the most", x.body(Integer.MAX_VALUE), Check.NONE);
  }

  /** No voice begins in a call that is BEYOND, so THE TRACE is that of the one ahead. */
  private static void refused(ApronStrings x, String ahead, int... bodies) {
    Check.about("30");
    Check.due("voice 4", x.voice(0, 4, 0), Check.BEYOND);
    Check.due("voice -1", x.voice(0, -1, 0), Check.BEYOND);
    Check.due("nobody", x.voice(8, 0, 0), Check.BEYOND);
    Check.due("one -1", x.voice(-1, 0, 0), Check.BEYOND);
    traced(x, "BEYOND behind " + ahead, bodies);
  }
}
