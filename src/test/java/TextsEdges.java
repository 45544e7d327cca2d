/** The boundaries of promises 10 to 13, and of Term 2. */
final class TextsEdges {
  private static final int MIN = Integer.MIN_VALUE;
  private static final int MAX = Integer.MAX_VALUE;

  private TextsEdges() {}

  static void all() {
    feedRefused();
    feed();
    textRefused();
    tape();
    places();
    everyByte();
    numbers();
    open();
    comparisons();
    names();
    ahead();
    untell();
    lawRefused();
    rests();
    wraps();
    quotients();
    truths();
    binding();
    mostParts();
    deepest();
  }

  private static ApronStrings filled(int bytes) {
    ApronStrings x = Edge.some();
    x.text(1);
    String text = "(s+1)*(s+2)*(s+3)*(s+4)*(s+5)*(s+6)*(s+7)*(s+8)*(s+9)*(s+10)";
    Check.feed(x, text.substring(0, bytes));
    return x;
  }

  private static void feedRefused() {
    Edge.beyond(10, "n", 1, 8, Edge::some, (x, v) -> x.feed(0x73, v));
    Edge.beyond(10, "n, THE TAPE of 0 bytes", 1, 8, Edge::fresh, (x, v) -> x.feed(0x73, v));
    Edge.beyond(10, "BEYOND ahead of FULL, n", 1, 8, Edge::full, (x, v) -> x.feed(0x73, v));
    for (int n = 1; n <= 8; n++) {
      int bytes = n;
      Edge.refused(10, n + " bytes on 60", () -> filled(60), Check.FULL, x -> x.feed(-1L, bytes));
      Edge.refused(10, n + " bytes on " + (61 - n), () -> filled(61 - bytes), Check.FULL, x -> x.feed(0L, bytes));
      Edge.of(10, n + " bytes on " + (60 - n), () -> {
        ApronStrings x = filled(60 - bytes);
        Check.due("feed", x.feed(0x3131313131313131L, bytes), 60);
        Check.due("count(6)", x.count(6), 60);
        Check.due("told(4)", x.told(4), 0);
      });
    }
    Edge.refused(10, "8 bytes on 59", () -> filled(59), Check.FULL, x -> x.feed(0L, 8));
    Edge.refused(10, "9 bytes on 60: BEYOND ahead of FULL", () -> filled(60), Check.BEYOND, x -> x.feed(0L, 9));
  }

  private static void feed() {
    Edge.of(10, "the lowest byte first, those above n left out", () -> {
      // As bytes, the lowest first: 9 - 8 + 7 - 6
      long word = 0x362D372B382D39L;
      int[] worth = {9, -1, 1, -1, 8, -1, 2};
      for (int n = 1; n <= 7; n++) {
        ApronStrings x = new ApronStrings();
        Check.due("feed of " + n, x.feed(word, n), n);
        Check.due("text", x.text(1), n % 2 == 1 ? 1 : -10 - n);
        if (n % 2 == 1) Check.due("law", x.law(1, 0, 0, 0), worth[n - 1]);
      }
    });
    Edge.of(10, "8 bytes, the highest of them above 127", () -> {
      ApronStrings x = new ApronStrings();
      Check.due("feed", x.feed(0xFF312B312B312B31L, 8), 8);
      Check.due("the eighth is the fault", x.text(1), -17);
      Check.due("feed", x.feed(Long.MIN_VALUE, 8), 8);
      Check.due("a byte 0", x.text(1), -10);
      Check.due("feed", x.feed(-1L, 8), 8);
      Check.due("a byte 255", x.text(1), -10);
    });
    Edge.of(10, "one byte after another", () -> {
      ApronStrings x = new ApronStrings();
      for (int i = 1; i <= 60; i++) Check.due("feed " + i, x.feed(i % 2 == 1 ? '1' : '+', 1), i);
      Check.due("a 61st", x.feed('1', 1), Check.FULL);
      Check.due("ends too early", x.text(1), -70);
      Check.due("from 0 again", x.feed('1', 1), 1);
    });
  }

  private static void textRefused() {
    Edge.beyond(11, "use", 0, 1, Edge::some, (x, v) -> x.text(v));
    Edge.beyond(11, "use, THE TAPE of 60 bytes", 0, 1, Edge::full, (x, v) -> x.text(v));
    Edge.beyond(11, "use, THE TAPE of 0 bytes", 0, 1, Edge::fresh, (x, v) -> x.text(v));
    Edge.of(11, "a FAULT is no ERROR, but empties THE TAPE", () -> {
      ApronStrings x = new ApronStrings();
      Check.due("text", Check.text(x, 1, "+"), -10);
      Check.due("count(6)", x.count(6), 0);
      for (int k = 1; k <= 6; k++) Check.due("told " + k, x.told(k), 0);
    });
  }

  private static void due(int use, String text, int want) {
    ApronStrings x = new ApronStrings();
    Check.due("text(" + use + ") of " + text, Check.text(x, use, text), want);
    Check.due("untell(" + use + ") then", x.untell(use), want == 1 ? 1 : 0);
    Check.due("untell of the other one", x.untell(1 - use), 0);
    Check.due("count(6) then", x.count(6), 0);
  }

  private static void tape() {
    Edge.of(11, "THE TAPE of 0 bytes", () -> {
      due(0, "", -10);
      due(1, "", -10);
    });
    Edge.of(11, "THE TAPE of 1 byte", () -> {
      due(0, "y", 1);
      due(1, "0", 1);
      due(1, "(", -11);
      due(1, ")", -10);
    });
    Edge.of(11, "THE TAPE of 60 bytes", () -> {
      String most = "s*1234+s*1234+s*1234+s*1234+s*1234+s*1234+s*1234+s*1234+s*12";
      Check.due("bytes", most.length(), 60);
      due(1, most, 1);
      due(0, most, 1);
    });
    Edge.of(11, "a FAULT at the 60th byte", () -> {
      String most = "s*1234+s*1234+s*1234+s*1234+s*1234+s*1234+s*1234+s*1234+s*1";
      Check.due("bytes", most.length(), 59);
      due(1, most, 1);
      due(1, most + "s", -69);
      due(1, most + ")", -69);
    });
    Edge.of(11, "60 bytes that end too early", () -> {
      String most = "s*1234+s*1234+s*1234+s*1234+s*1234+s*1234+s*1234+s*1234+s*1";
      due(1, most + "+", -70);
      due(1, "(" + most, -70);
    });
  }

  private static void places() {
    Edge.of(11, "FAULT at the first byte, the second, and behind the last", () -> {
      due(0, "+y", -10);
      due(0, "*", -10);
      due(0, "yy", -11);
      due(0, "y+", -12);
      due(0, "y+-", -12);
      due(0, "(y", -12);
      due(0, "!", -11);
    });
    Edge.of(11, "FAULT where ( and ) are not as many", () -> {
      due(0, "()", -11);
      due(0, ")", -10);
      due(0, "y)", -11);
      due(0, "(y))", -13);
      due(0, "((y)", -14);
      due(0, "(y+)", -13);
      due(0, "(y)(", -13);
      due(0, "(y)y", -13);
      due(0, "(y)1", -13);
      due(0, "(y)!", -13);
    });
    Edge.of(11, "blanks, and what else is no sign", () -> {
      due(0, " y", -10);
      due(0, "y ", -11);
      due(0, "y +y", -11);
      due(0, "y+ y", -12);
      due(0, "Y", -10);
      due(0, "y==y", -12);
      due(0, "y!=y", -11);
      due(0, "y>=y", -12);
      due(0, "y||y", -12);
      due(0, "y&&y", -12);
      due(0, "y--y", -12);
      due(0, "y-!y", 1);
      due(0, "y^y", -11);
    });
  }

  /** Each of the 256 bytes where a value is due, and where a sign is. */
  private static void everyByte() {
    Edge.of(11, "each byte as the first", () -> {
      for (int use = 0; use < 2; use++) {
        String value = "0123456789" + (use == 0 ? "ysd" : "sod");
        for (int sign = 0; sign < 256; sign++) {
          ApronStrings x = new ApronStrings();
          x.feed(sign, 1);
          int want = value.indexOf(sign) >= 0 ? 1 : sign == '!' || sign == '(' ? -11 : -10;
          Check.due("byte " + sign + " for " + use, x.text(use), want);
        }
      }
    });
    Edge.of(11, "each byte behind a NAME, a NUMBER of 4 digits, a )", () -> {
      for (String ahead : new String[] {"s", "1234", "(s)"}) {
        for (int sign = 0; sign < 256; sign++) {
          ApronStrings x = new ApronStrings();
          Check.feed(x, ahead);
          x.feed(sign, 1);
          int many = ahead.length();
          int want = "|&<=>+-*/%".indexOf(sign) >= 0 ? -10 - many - 1 : -10 - many;
          Check.due("byte " + sign + " behind " + ahead, x.text(1), want);
        }
      }
    });
    Edge.of(11, "each byte behind a sign", () -> {
      for (char ahead : "|&<=>+-*/%!(".toCharArray()) {
        for (int sign = 0; sign < 256; sign++) {
          ApronStrings x = new ApronStrings();
          Check.feed(x, (ahead == '!' || ahead == '(' ? "" : "s") + ahead);
          int many = x.feed(sign, 1);
          boolean value = "0123456789sod".indexOf(sign) >= 0;
          int fault = value && ahead != '(' ? -1 : value || sign == '!' || sign == '(' ? many : many - 1;
          Check.due("byte " + sign + " behind " + ahead, x.text(1), fault < 0 ? 1 : -10 - fault);
        }
      }
    });
  }

  private static void numbers() {
    Edge.of(11, "a NUMBER of 0, 1, 4 and 5 digits", () -> {
      due(1, "0", 1);
      due(1, "9", 1);
      due(1, "0000", 1);
      due(1, "9999", 1);
      due(1, "00000", -14);
      due(1, "99999", -14);
      due(1, "1+00000", -16);
      due(1, "(12345)", -15);
      due(1, "!12345", -15);
      due(1, "1234s", -14);
      due(1, "1s", -11);
      due(1, "s1", -11);
    });
    Edge.of(11, "what they are worth", () -> {
      String[] texts = {"0000", "0009", "9999=9998+1", "1000=999+1", "0010=10", "1234=1*1000+2*100+3*10+4"};
      int[] want = {0, 9, 1, 1, 1, 1};
      for (int i = 0; i < texts.length; i++) {
        ApronStrings x = new ApronStrings();
        Check.due("text " + texts[i], Check.text(x, 1, texts[i]), 1);
        Check.due("law", x.law(1, 0, 0, 0), want[i]);
      }
    });
  }

  private static void open() {
    Edge.of(11, "5 open, and a 6th", () -> {
      due(1, "(((((s)))))", 1);
      due(1, "((((((s))))))", -15);
      due(1, "(((((", -15);
      due(1, "((((((", -15);
      due(1, "!!!!!s", 1);
      due(1, "!!!!!!s", -15);
      due(1, "(!(!(s)))", 1);
      due(1, "(!(!(!s)))", -15);
      due(1, "!(!(!s))", 1);
      due(1, "!(!(!(s)))", -15);
      due(1, "!(!(!!s))", -15);
      due(1, "!!!!(s)", 1);
      due(1, "!!!!!(s)", -15);
      due(1, "((((!s))))", 1);
      due(1, "(((((!s)))))", -15);
    });
    Edge.of(11, "what is closed is open no more", () -> {
      due(1, "(((((s)))))+(((((s)))))", 1);
      due(1, "(((((s)))))+((((((s))))))", -27);
      due(1, "!!!!!s+!!!!!s", 1);
      due(1, "!!!!!s+!!!!!!s", -22);
      due(1, "((((!s+!s+!s))))", 1);
      due(1, "((((!s+!!s))))", -18);
      due(1, "!(((!s)+!s))*!!!!(s)", 1);
      due(1, "!(((!s)+!s))*!!!!!(s)", -28);
      due(1, "(((((1234)*(s)))))", 1);
      due(1, "(((((1234)*((s))))))", -22);
      due(1, "((((12)*((s)))))", 1);
      due(1, "((((12)*(((s))))))", -20);
    });
  }

  private static void comparisons() {
    Edge.of(11, "one comparison, and a second", () -> {
      for (char first : "<=>".toCharArray()) {
        due(1, "s" + first + "s", 1);
        for (char second : "<=>".toCharArray()) {
          due(1, "s" + first + "s" + second + "s", -13);
          due(1, "s" + first + "s+1*2" + second + "s", -17);
          due(1, "(s" + first + "s)" + second + "s", 1);
          due(1, "s" + first + "(s" + second + "s)", 1);
          due(1, "s" + first + "s&s" + second + "s", 1);
          due(1, "s" + first + "s|s" + second + "s", 1);
          due(1, "(s" + first + "s" + second + "s)", -14);
        }
      }
    });
  }

  private static void names() {
    Edge.of(11, "NAMES of the other USE, and of none", () -> {
      due(0, "y+s+d", 1);
      due(1, "s+o+d", 1);
      due(0, "y+s+o", -14);
      due(1, "s+o+y", -14);
      due(0, "o", -10);
      due(1, "y", -10);
      due(0, "m", -10);
      due(1, "D", -10);
    });
  }

  private static void ahead() {
    Edge.of(11, "the one ahead stays behind a FAULT, and goes otherwise", () -> {
      for (int use = 0; use < 2; use++) {
        ApronStrings x = new ApronStrings();
        Check.text(x, use, "3");
        Check.due("a fault", Check.text(x, use, "2+"), -12);
        Check.due("law", x.law(use, 0, 0, 0), 3);
        Check.due("empty", x.text(use), -10);
        Check.due("law", x.law(use, 0, 0, 0), 3);
        Check.due("text", Check.text(x, use, "s+s+s+2"), 1);
        Check.due("text", Check.text(x, use, "1"), 1);
        Check.due("law", x.law(use, 0, 0, 0), 1);
        Check.due("the other use has none", x.untell(1 - use), 0);
      }
    });
    Edge.of(11, "a FAULT with 5 open leaves none open", () -> {
      for (String fault : new String[] {"(((((", "!!!!!", "((!!!s+", "(((((s)))*", "(((((+"}) {
        ApronStrings x = new ApronStrings();
        Check.due("a fault", Check.text(x, 1, fault) < -9 ? 1 : 0, 1);
        Check.due("text", Check.text(x, 1, "(((((s)))))+!!!!!s"), 1);
        Check.due("law", x.law(1, 3, 0, 0), 3);
        Check.due("a fault", Check.text(x, 1, fault) < -9 ? 1 : 0, 1);
        Check.due("text", Check.text(x, 1, "s"), 1);
        Check.due("law", x.law(1, 3, 0, 0), 3);
      }
    });
    Edge.of(11, "a shorter one behind a longer one: nothing of that is left", () -> {
      String[] longer = {"!s", "!!s", "s+9", "s-s*9", "(s|s)", "!(s&!s)"};
      String[] shorter = {"5", "o", "o+0", "(o)", "!0*o"};
      for (String first : longer) {
        for (String then : shorter) {
          ApronStrings x = new ApronStrings();
          Check.text(x, 1, first);
          x.image();
          Check.due("text " + then, Check.text(x, 1, then), 1);
          Check.due(then + " behind " + first, x.law(1, 1, 5, 0), 5);
          x.image();
          Check.text(x, 1, first);
          x.restore();
          Check.due(then + " restored behind " + first, x.law(1, 1, 5, 0), 5);
        }
      }
    });
    Edge.of(11, "a FAULT leaves a USE without a TEXT as it is", () -> {
      ApronStrings x = new ApronStrings();
      Check.text(x, 0, "2+");
      Check.due("law", x.law(0, 3, 0, 0), 3);
      Check.due("untell", x.untell(0), 0);
    });
  }

  private static void untell() {
    Edge.beyond(12, "use", 0, 1, Edge::some, (x, v) -> x.untell(v));
    Edge.beyond(12, "use, of no TEXT", 0, 1, Edge::fresh, (x, v) -> x.untell(v));
    Edge.of(12, "no TEXT", () -> {
      Check.due("untell(0)", new ApronStrings().untell(0), 0);
      Check.due("untell(1)", new ApronStrings().untell(1), 0);
      ApronStrings x = Edge.some();
      Check.due("of the other use", x.untell(1), 0);
      Edge.alike(x, Edge.some());
    });
    Edge.of(12, "a TEXT of 1 and of 60 bytes, and none any more", () -> {
      for (int use = 0; use < 2; use++) {
        ApronStrings x = new ApronStrings();
        Check.text(x, 1 - use, "2");
        Check.text(x, use, "0");
        Check.due("untell", x.untell(use), 1);
        Check.due("again", x.untell(use), 0);
        Check.due("law", x.law(use, 3, 1, 1), 3);
        Check.text(x, use, "(s+1)*(s+2)*(s+3)*(s+4)*(s+5)*(s+6)*(s+7)*(s+8)*(s+9)*(s+10)");
        Check.due("untell", x.untell(use), 1);
        Check.due("again", x.untell(use), 0);
        Check.due("the other one stays", x.law(1 - use, 0, 0, 0), 2);
        Check.due("no error", x.told(1), 0);
      }
    });
    Edge.of(12, "THE TAPE stays", () -> {
      ApronStrings x = Edge.full();
      x.untell(0);
      Check.due("count(6)", x.count(6), 60);
    });
  }

  private static void lawRefused() {
    Edge.beyond(13, "use", 0, 1, Edge::some, (x, v) -> x.law(v, 1, 2, 3));
    Edge.beyond(13, "use, of no TEXT", 0, 1, Edge::fresh, (x, v) -> x.law(v, MIN, MAX, -1));
  }

  private static void rests() {
    int[] any = {0, 1, 3, 4, 7, 8, 9, 10, -1, -2, -3, -4, -5, -8, MAX, MAX - 3, MIN, MIN + 1, MIN + 3};
    int[] rest = {0, 1, 3, 0, 3, 0, 1, 2, 3, 2, 1, 0, 3, 0, 3, 0, 0, 1, 3};
    Edge.of(13, "DOES: the rest by 4, below 0 4 more", () -> {
      for (int i = 0; i < any.length; i++) {
        ApronStrings x = new ApronStrings();
        Check.due("without a text, of " + any[i], x.law(0, any[i], 1, 1), rest[i]);
        Check.text(x, 0, "s");
        Check.due("by s, of " + any[i], x.law(0, 1, any[i], 1), rest[i]);
        Check.text(x, 0, "d");
        Check.due("by d, of " + any[i], x.law(0, 1, 1, any[i]), rest[i]);
        Check.text(x, 0, "y");
        Check.due("by y, of " + any[i], x.law(0, any[i], 1, 1), rest[i]);
      }
    });
    Edge.of(13, "GOES: held within 0 and 9", () -> {
      for (int v : any) {
        int want = v < 0 ? 0 : v > 9 ? 9 : v;
        ApronStrings x = new ApronStrings();
        Check.due("without a text, of " + v, x.law(1, v, 1, 1), want);
        Check.text(x, 1, "o");
        Check.due("by o, of " + v, x.law(1, 1, v, 1), want);
        Check.text(x, 1, "d");
        Check.due("by d, of " + v, x.law(1, 1, 1, v), want);
        Check.text(x, 1, "s");
        Check.due("by s, of " + v, x.law(1, v, 1, 1), want);
      }
    });
    Edge.of(13, "any number changes nothing", () -> {
      ApronStrings x = Edge.full();
      x.law(0, MIN, MAX, Check.BEYOND);
      x.law(1, MAX, MIN, Check.PARTED);
      Edge.alike(x, Edge.full());
    });
  }

  /** By a TEXT that is 1 only where s joined with o is d. */
  private static void joined(char sign, int left, int right, int want) {
    ApronStrings x = new ApronStrings();
    Check.text(x, 1, "s" + sign + "o=d");
    Check.due(left + " " + sign + " " + right + " is " + want, x.law(1, left, right, want), 1);
    Check.due(left + " " + sign + " " + right + " is no other", x.law(1, left, right, want + 1), 0);
  }

  private static void wraps() {
    Edge.of(13, "ints that wrap", () -> {
      joined('+', MAX, 1, MIN);
      joined('+', MIN, -1, MAX);
      joined('+', MIN, MIN, 0);
      joined('+', MAX, MAX, -2);
      joined('-', MIN, 1, MAX);
      joined('-', MAX, -1, MIN);
      joined('-', 0, MIN, MIN);
      joined('-', -1, MIN, MAX);
      joined('*', 65536, 65536, 0);
      joined('*', MAX, 2, -2);
      joined('*', MAX, MAX, 1);
      joined('*', MIN, -1, MIN);
      joined('*', MIN, MIN, 0);
      joined('*', 46341, 46341, 46341 * 46341);
    });
    Edge.of(13, "comparisons of what is far apart do not wrap", () -> {
      told("s<o", MIN, MAX, 1);
      told("s<o", MAX, MIN, 0);
      told("s>o", MAX, MIN, 1);
      told("s>o", MIN, MAX, 0);
      told("s=o", MIN, MAX, 0);
      told("s=o", MIN, MIN, 1);
      told("s<o", 0, MIN, 0);
      told("s>o", 0, MIN, 1);
    });
    Edge.of(13, "less, as much, and more", () -> {
      int[] near = {-1, 0, 1};
      for (int v : near) {
        told("s<o", v, 0, v < 0 ? 1 : 0);
        told("s=o", v, 0, v == 0 ? 1 : 0);
        told("s>o", v, 0, v > 0 ? 1 : 0);
      }
    });
  }

  private static void told(String text, int s, int o, int want) {
    ApronStrings x = new ApronStrings();
    Check.text(x, 1, text);
    Check.due(text + " of " + s + ", " + o, x.law(1, s, o, 0), want);
  }

  private static void quotients() {
    Edge.of(13, "quotients are cut toward 0", () -> {
      joined('/', 7, 2, 3);
      joined('/', -7, 2, -3);
      joined('/', 7, -2, -3);
      joined('/', -7, -2, 3);
      joined('/', 1, 2, 0);
      joined('/', -1, 2, 0);
      joined('/', MIN, 2, MIN / 2);
      joined('/', MAX, -1, -MAX);
      joined('/', MIN, -1, MIN);
      joined('/', MIN, MIN, 1);
      joined('/', MAX, MIN, 0);
    });
    Edge.of(13, "the rest that it leaves", () -> {
      joined('%', 7, 2, 1);
      joined('%', -7, 2, -1);
      joined('%', 7, -2, 1);
      joined('%', -7, -2, -1);
      joined('%', -1, 2, -1);
      joined('%', MIN, -1, 0);
      joined('%', MIN, MAX, -1);
      joined('%', MAX, MIN, MAX);
      joined('%', MIN, MIN, 0);
    });
    Edge.of(13, "both by 0 are 0", () -> {
      for (int v : new int[] {0, 1, -1, MIN, MAX}) {
        joined('/', v, 0, 0);
        joined('%', v, 0, 0);
      }
    });
  }

  private static void truths() {
    Edge.of(13, "1 or 0, what is not 0 being true", () -> {
      int[] any = {0, 1, -1, 2, 4, MIN, MAX};
      for (int a : any) {
        told("!s+4", a, 0, a == 0 ? 5 : 4);
        told("!!s+4", a, 0, a == 0 ? 4 : 5);
        for (int b : any) {
          told("(s|o)+4", a, b, a != 0 || b != 0 ? 5 : 4);
          told("(s&o)+4", a, b, a != 0 && b != 0 ? 5 : 4);
          told("(s<o)+4", a, b, a < b ? 5 : 4);
          told("(s=o)+4", a, b, a == b ? 5 : 4);
          told("(s>o)+4", a, b, a > b ? 5 : 4);
        }
      }
    });
  }

  private static void binding() {
    Edge.of(13, "what joins more closely", () -> {
      told("1|1&0", 0, 0, 1);
      told("0&0|1", 0, 0, 1);
      told("0&1=1", 0, 0, 0);
      told("2&1=1", 0, 0, 1);
      told("1=2&2", 0, 0, 0);
      told("1<1+1", 0, 0, 1);
      told("1+1>1", 0, 0, 1);
      told("2+2*2", 0, 0, 6);
      told("2*2+2", 0, 0, 6);
      told("!0+1", 0, 0, 2);
      told("!0*3", 0, 0, 3);
      told("!1=0", 0, 0, 1);
    });
    Edge.of(13, "from the left on", () -> {
      told("9-4-3", 0, 0, 2);
      told("9-4+3", 0, 0, 8);
      told("8/4/2", 0, 0, 1);
      told("8/4*2", 0, 0, 4);
      told("9%5%3", 0, 0, 1);
      told("2*9%4", 0, 0, 2);
      told("9%4*2", 0, 0, 2);
      told("7/2*2", 0, 0, 6);
    });
  }

  private static void gives(String text, int s, int o, int d, int want) {
    ApronStrings x = new ApronStrings();
    Check.due("text " + text, Check.text(x, 1, text), 1);
    Check.due(text + " of " + s + ", " + o + ", " + d, x.law(1, s, o, d), want);
    x.image();
    Check.text(x, 1, "0");
    x.restore();
    Check.due("restored, " + text + " of " + s + ", " + o + ", " + d, x.law(1, s, o, d), want);
  }

  /** TEXTS of which each byte is a NUMBER, a NAME or a sign, so that nothing longer can be worked out. */
  private static void mostParts() {
    Edge.of(13, "60 bytes, all of which count", () -> {
      String most = "!s" + "+o".repeat(28) + "-d";
      Check.due("bytes", most.length(), 60);
      gives(most, 1, 0, -5, 5);
      gives(most, 0, 0, -5, 6);
      gives(most, 1, 1, 20, 8);
      gives(most, 0, 1, 20, 9);
      gives(most, 1, 1, 27, 1);
      gives(most, 1, 1, 28, 0);
    });
    Edge.of(13, "1 to 30 NUMBERS and NAMES, each of which counts", () -> {
      for (int many = 1; many <= 30; many++) {
        for (int at = 0; at < many; at++) {
          String text = "0+".repeat(at) + "d" + "+0".repeat(many - 1 - at);
          gives(text, 9, 9, 4, 4);
        }
      }
    });
    Edge.of(13, "1 to 29 signs, each of which counts", () -> {
      for (int many = 1; many <= 29; many++) {
        for (int at = 0; at < many; at++) {
          gives("s" + "+0".repeat(at) + "-o" + "+0".repeat(many - 1 - at), 8, 3, 9, 5);
        }
      }
    });
    Edge.of(13, "a TEXT of 60 bytes tells how far one GOES in days", () -> {
      ApronStrings x = Check.still();
      x.one(0, -1, 10, 0);
      x.list(0, 0, 1);
      Check.due("text", Check.text(x, 1, "0*s" + "+0".repeat(26) + "+5-!d"), 1);
      Check.due("then", x.then(0, 1), 14);
      x.days(1);
      Check.due("at", x.oneIs(0, 3), 14);
    });
  }

  /** As much as can be joined later than what stands behind it, ( within ( up to the four that 60 bytes leave. */
  private static void deepest() {
    String[] ways = {"0|1&0<0+1*", "0|1&1>1-1*", "0|1&0<0+9/", "0|1&0<1%2*", "0|1&0<0+", "0|1&0<1*", "0|1&0+1*"};
    for (String ahead : ways) {
      Edge.of(13, "( within ( behind " + ahead, () -> {
        for (int open = 0; open <= 4; open++) {
          truth((ahead + "(").repeat(open) + ahead + "d" + ")".repeat(open));
        }
      });
    }
    Edge.of(13, "60 bytes in which 30 signs wait", () -> {
      String text = "0|1&0<0+1*(".repeat(4) + "0|1&0<0+1*!d" + "))))";
      Check.due("bytes", text.length(), 60);
      gives(text, 9, 9, 0, 1);
      gives(text, 9, 9, 5, 0);
    });
    Edge.of(11, "60 bytes in which 32 signs wait: they end too early", () -> {
      due(1, "0|1&0<0+1*(".repeat(5) + "0|1&0", -70);
      due(1, "0|1&0<0+1*(".repeat(5) + "0|1&(", -69);
      due(1, "0|1&0<0+1*(".repeat(5) + "0|1&!", -69);
    });
    Edge.of(13, "! and ( by turns behind all that joins", () -> {
      truth("0|1&0<0+1*!(0|1&0<0+1*!d)");
      gives("0|1&0<0+1*!(0|1&0<0+1*!(0|1&0<0+1*!d))", 0, 0, 5, 0);
      gives("0|1&0<0+1*!(0|1&0<0+1*!(0|1&0<0+1*!d))", 0, 0, 0, 1);
      gives("7-(7-(7-(7-(7-d))))", 0, 0, 3, 4);
      gives("9-8-7+(9-8-7+(9-8-7+(9-8-7+(9-8-7+d))))", 0, 0, 35, 5);
    });
  }

  /** 1 if d is above 0, else 0. */
  private static void truth(String text) {
    gives(text, 9, 9, 5, 1);
    gives(text, 9, 9, 1, 1);
    gives(text, 9, 9, 0, 0);
  }
}
