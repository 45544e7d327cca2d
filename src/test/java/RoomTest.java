import java.lang.management.ManagementFactory;

/** Calls make no objects: all 512 of them live in the room that the constructor takes. */
public final class RoomTest {
  private static final com.sun.management.ThreadMXBean THREADS =
      (com.sun.management.ThreadMXBean) ManagementFactory.getThreadMXBean();

  private RoomTest() {}

  public static void main(String[] args) {
    ApronStrings[] kept = new ApronStrings[3];
    for (int i = 0; i < kept.length; i++) kept[i] = full();
    Check.about("the room");
    long before = taken();
    long nothing = taken() - before;
    before = taken();
    ApronStrings x = new ApronStrings();
    long made = taken() - before - nothing;
    Check.due("an object takes less than 20000 bytes: " + made, made < 20000 ? 1 : 0, 1);
    Check.due("it is new", x.count(0), 0);
    play(kept[0], 2);
    before = taken();
    long sum = play(kept[1], 20);
    long calls = taken() - before - nothing;
    Check.due("500 calls take next to nothing: " + calls, calls < 4096 ? 1 : 0, 1);
    Check.due("they answered", sum != 0 ? 1 : 0, 1);
    Check.end("RoomTest");
  }

  private static long taken() {
    return THREADS.getThreadAllocatedBytes(Thread.currentThread().getId());
  }

  private static ApronStrings full() {
    ApronStrings x = new ApronStrings();
    for (int i = 0; i < 8; i++) x.one(10 * (i % 7) + i, i - 1, 20 + 3 * i, 4 * i);
    x.sheet(0, 8, 24);
    return x;
  }

  private static long play(ApronStrings x, int times) {
    long sum = 0;
    for (int i = 0; i < times; i++) {
      sum += x.freeFor(i % 8, 40) + x.spareFor(7, 40) + x.odds(6, 40, 0) + x.fits(0, i % 8, 0) + x.then(3, 60);
      sum += x.strings(60) + x.soonest(i % 8, 63) + x.days(1) + x.loose(1) + x.knot(0) + x.crossings();
      sum += x.feed(0x39392A73L, 4) + x.text(1) + x.law(1, 5, 0, 0) + x.voice(i % 8, 2, 7) + x.body(0);
      sum += x.image() + x.restore() + x.tell(4) + x.check() + x.sheet(1, 8, 24) + x.move(0, 0, 1, 0, 24);
      sum += x.reels(1) + x.judge(1) + x.told(9);
    }
    return sum;
  }
}
