import java.util.List;
import java.util.Map;
import java.util.TreeMap;

/** Every boundary of each argument with every boundary of the others, set against Plain, from three states on. */
public final class CrossedTest {
  private static final int MIN = Integer.MIN_VALUE;
  private static final int MAX = Integer.MAX_VALUE;
  private static final int[] PEOPLE = {MIN, -2, -1, 0, 1, 2, 3, 6, 7, 8, MAX};
  private static final int[] CELLS = {MIN, -1, 0, 1, 30, 62, 63, 64, MAX};
  private static final int[] SPARES = {MIN, -1, 0, 1, 98, 99, 100, MAX};
  private static final int[] KMS = {MIN, -1, 0, 1, 9, 10, 39, 60, 69, 70, MAX};
  private static final int[] BITS = {MIN, -1, 0, 1, 2, 3, MAX};
  private static final int[] SHEETS = {MIN, -1, 0, 1, 2, 3, 4, MAX};
  private static final int[] NUMBERS = {MIN, -1, 0, 1, 2, 3, 4, 23, 24, 25, MAX};
  private static final int[] FEW = {MIN, -1, 0, 1, 3, 24, MAX};
  private static final int[] DAYS = {MIN, -1, 0, 1, 2, 29, 30, 31, 39, 40, 41, 59, 60, 61, MAX};
  private static final int[] FAR = {MIN, -1, 0, 1, 39, 40, 41, MAX};
  private static final int[] ANY = {MIN, MIN + 1, -1000000001, -5, -1, 0, 1, 3, 4, 9, 10, 65536, MAX};

  /** The pool of each argument, in their order. */
  private static final Map<String, int[][]> POOLS = new TreeMap<>();

  static {
    POOLS.put("one", new int[][] {KMS, PEOPLE, CELLS, SPARES});
    POOLS.put("oneIs", new int[][] {PEOPLE, {MIN, -1, 0, 1, 2, 3, 4, 5, 6, 7, 8, 9, MAX}});
    POOLS.put("become", new int[][] {PEOPLE, KMS});
    POOLS.put("as", new int[][] {PEOPLE, {MIN, -1, 0, 1, 2, 3, 4, 5, 6, 7, MAX}});
    POOLS.put("reel", new int[][] {PEOPLE, SPARES});
    POOLS.put("cut", new int[][] {PEOPLE});
    POOLS.put("list", new int[][] {{MIN, -1, 0, 5, 6, MAX}, PEOPLE, {MIN, -1, 0, 1, 2, MAX}});
    POOLS.put("listed", new int[][] {{MIN, -1, 0, 1, 5, 6, MAX}});
    POOLS.put("text", new int[][] {BITS});
    POOLS.put("untell", new int[][] {BITS});
    POOLS.put("law", new int[][] {{MIN, -1, 0, 1, 2, MAX}, ANY, ANY, ANY});
    POOLS.put("days", new int[][] {DAYS});
    POOLS.put("loose", new int[][] {DAYS});
    POOLS.put("day", new int[][] {{MIN, -1, 0, 1, 9939, 9940, 9969, 9970, 9998, 9999, 10000, MAX}});
    POOLS.put("seed", new int[][] {ANY});
    POOLS.put("line", new int[][] {PEOPLE});
    POOLS.put("between", new int[][] {PEOPLE, PEOPLE});
    POOLS.put("over", new int[][] {CELLS});
    POOLS.put("knot", new int[][] {BITS});
    POOLS.put("crossings", new int[][] {});
    POOLS.put("then", new int[][] {PEOPLE, DAYS});
    POOLS.put("strings", new int[][] {DAYS});
    POOLS.put("soonest", new int[][] {PEOPLE, CELLS});
    POOLS.put("spareFor", new int[][] {PEOPLE, FAR});
    POOLS.put("freeFor", new int[][] {PEOPLE, {MIN, -1, 0, 1, 7, 40, 41, MAX}});
    POOLS.put("odds", new int[][] {PEOPLE, FAR, {MIN, -1, 0, 1, 2, MAX}});
    POOLS.put("fits", new int[][] {SHEETS, PEOPLE, {MIN, -1, 0, 1, 2, MAX}});
    POOLS.put("voice", new int[][] {PEOPLE, {MIN, -1, 0, 1, 2, 3, 4, MAX}, ANY});
    POOLS.put("body", new int[][] {{MIN, -1, 0, 1, 5, 6, 29, 30, MAX}});
    POOLS.put("sheet", new int[][] {SHEETS, {MIN, -8, -1, 0, 1, 7, 8, 9, 16, 24, 32, 33, 64, MAX}, NUMBERS});
    POOLS.put("put", new int[][] {SHEETS, NUMBERS, ANY});
    POOLS.put("move", new int[][] {SHEETS, FEW, SHEETS, FEW, FEW});
    POOLS.put("reels", new int[][] {SHEETS});
    POOLS.put("judge", new int[][] {SHEETS});
    POOLS.put("image", new int[][] {});
    POOLS.put("restore", new int[][] {});
    POOLS.put("tell", new int[][] {ANY});
    POOLS.put("check", new int[][] {});
    POOLS.put("count", new int[][] {{MIN, -1, 0, 1, 2, 3, 4, 5, 6, 7, 8, 9, 10, MAX}});
    POOLS.put("told", new int[][] {{MIN, -1, 0, 1, 2, 3, 4, 5, 6, 7, MAX}});
  }

  private final Object asked;
  private int made;

  private CrossedTest(Object asked) {
    this.asked = asked;
  }

  public static void main(String[] args) {
    for (int state = 0; state < 3; state++) {
      for (String name : POOLS.keySet()) crossed(name, state);
      feeds(state);
    }
    Check.end("CrossedTest");
  }

  private static void crossed(String name, int state) {
    Check.about("crossed, from state " + state);
    int[][] pools = POOLS.get(name);
    CrossedTest x = new CrossedTest(new ApronStrings());
    CrossedTest y = new CrossedTest(new Plain());
    int calls = 512;
    int[] at = new int[pools.length];
    boolean more = true;
    while (more) {
      if (calls > 500) {
        x = new CrossedTest(new ApronStrings());
        y = new CrossedTest(new Plain());
        calls = Math.max(x.begin(state), y.begin(state));
      }
      Object[] a = new Object[pools.length];
      for (int i = 0; i < a.length; i++) a[i] = pools[i][at[i]];
      int got = x.ask(name, a);
      Check.due(name + List.of(a), got, y.ask(name, a));
      int k = Check.LOW - got;
      if (k >= 1 && k <= 6) Check.due("told " + k, x.ask("told", k), y.ask("told", k));
      calls += 2;
      int turn = 0;
      while (turn < at.length && ++at[turn] == pools[turn].length) at[turn++] = 0;
      more = turn < at.length;
    }
  }

  private static void feeds(int state) {
    for (int n : new int[] {MIN, -1, 0, 1, 2, 3, 4, 5, 6, 7, 8, 9, MAX}) {
      for (long word : new long[] {0, -1, 0x73, 0x2B73, 0x732B732B732B73L, Long.MIN_VALUE, Long.MAX_VALUE}) {
        CrossedTest x = new CrossedTest(new ApronStrings());
        CrossedTest y = new CrossedTest(new Plain());
        x.begin(state);
        y.begin(state);
        for (int i = 0; i < 9; i++) Check.due("feed " + word + ", " + n, x.ask("feed", word, n), y.ask("feed", word, n));
        for (int k = 1; k <= 6; k++) Check.due("told " + k, x.ask("told", k), y.ask("told", k));
        Check.due("count(6)", x.ask("count", 6), y.ask("count", 6));
        Check.due("text(1)", x.ask("text", 1), y.ask("text", 1));
      }
    }
  }

  /** Nobody; three people and of all else a little; eight, and all as full as can be. Answers how many calls. */
  private int begin(int state) {
    if (state > 0) few();
    if (state > 1) many();
    return made;
  }

  private void few() {
    ask("one", 4, -1, 30, 0);
    ask("one", 13, 0, 33, 2);
    ask("one", 25, 1, 28, 1);
    ask("list", 2, 1, 0);
    ask("feed", 0x312B79L, 3);
    ask("text", 0);
    ask("feed", 0x642B73L, 3);
    ask("tell", 2);
    ask("sheet", 0, 8, 3);
    ask("put", 0, 0, 30);
    ask("sheet", 1, 16, 4);
    ask("image");
    ask("day", 5);
    ask("voice", 1, 1, 3);
  }

  private void many() {
    ask("text", 1);
    ask("one", 33, 2, 25, 0);
    ask("one", 47, 1, 40, 3);
    ask("one", 58, 2, 20, 0);
    ask("one", 61, 5, 18, 4);
    ask("one", 7, -1, 63, 0);
    for (int i = 0; i < 7; i++) ask("feed", 0x2B732B732B732B73L, 8);
    ask("feed", 0x732B732BL, 4);
    for (int i = 0; i < 23; i++) ask("tell", i);
    ask("sheet", 2, 8, 24);
    ask("image");
    ask("day", 9990);
    ask("voice", 4, 2, 9);
  }

  private int ask(String name, Object... a) {
    made++;
    Class<?>[] types = new Class<?>[a.length];
    for (int i = 0; i < a.length; i++) types[i] = a[i] instanceof Long ? long.class : int.class;
    try {
      return (int) asked.getClass().getDeclaredMethod(name, types).invoke(asked, a);
    } catch (ReflectiveOperationException thrown) {
      Check.due(name + List.of(a) + " threw " + thrown + ", " + thrown.getCause(), 1, 0);
      return 0;
    }
  }
}
