/** Promises 10 to 13, and Term 2. */
public final class TextsTest {
  private TextsTest() {}

  public static void main(String[] args) {
    feed();
    text();
    faults();
    untell();
    worth();
    law();
    Check.end("TextsTest");
  }

  private static void feed() {
    Check.about("10");
    ApronStrings x = new ApronStrings();
    Check.due("n 0", x.feed(0, 0), Check.BEYOND);
    Check.due("n 9", x.feed(0, 9), Check.BEYOND);
    Check.due("n -1", x.feed(0, -1), Check.BEYOND);
    // The lowest byte first: 7 - 5, not 5 - 7; what is above the n lowest is left out.
    Check.due("three bytes", x.feed(0x7A7A7A352D37L, 3), 3);
    Check.due("text(1)", x.text(1), 1);
    Check.due("law", x.law(1, 0, 0, 0), 2);
    Check.due("eight bytes", x.feed(0x312B312B312B312BL, 8), 8);
    Check.due("they begin with +", x.text(1), -10);
    Check.due("a byte above 127", x.feed(-1L, 1), 1);
    Check.due("is no sign", x.text(1), -10);
    for (int i = 1; i <= 7; i++) Check.due("feed " + i, x.feed(0, 8), 8 * i);
    Check.due("61 bytes", x.feed(0, 5), Check.FULL);
    Check.due("n 9 on a full tape", x.feed(0, 9), Check.BEYOND);
    Check.due("60 bytes", x.feed(0, 4), 60);
    Check.due("one more", x.feed(0, 1), Check.FULL);
    Check.due("count(6)", x.count(6), 60);
    Check.due("told(4)", x.told(4), 2);
  }

  private static void text() {
    Check.about("11");
    ApronStrings x = new ApronStrings();
    Check.feed(x, "s+1");
    Check.due("use 2", x.text(2), Check.BEYOND);
    Check.due("use -1", x.text(-1), Check.BEYOND);
    Check.due("the tape stays", x.count(6), 3);
    Check.due("text(1)", x.text(1), 1);
    Check.due("the tape is empty", x.count(6), 0);
    Check.due("law(1)", x.law(1, 4, 0, 0), 5);
    Check.due("a fault", Check.text(x, 1, "s+"), -12);
    Check.due("the tape is empty", x.count(6), 0);
    Check.due("the one ahead stays", x.law(1, 4, 0, 0), 5);
    Check.due("law(0) has none", x.law(0, 2, 0, 0), 2);
    Check.due("another one", Check.text(x, 1, "8"), 1);
    Check.due("in its place", x.law(1, 4, 0, 0), 8);
    Check.due("no fault is an error", x.told(1), 2);
    Check.due("a fault within ( and !", Check.text(x, 1, "((!!+"), -14);
    Check.due("leaves nothing open", Check.text(x, 1, "((!!(7))))"), -19);
    Check.due("leaves nothing open", Check.text(x, 1, "((!!(7)))"), 1);
    Check.due("law(1)", x.law(1, 4, 0, 0), 1);
    Check.due("a longer one", Check.text(x, 1, "1111"), 1);
    Check.due("is gone", Check.text(x, 1, "0+3"), 1);
    Check.due("law(1)", x.law(1, 4, 0, 0), 3);
    Check.due("a longer one", Check.text(x, 1, "12"), 1);
    Check.due("is gone", Check.text(x, 1, "1"), 1);
    Check.due("law(1)", x.law(1, 4, 0, 0), 1);
    String longest = "(s+1)*(s+1)*(s+1)*(s+1)*(s+1)*(s+1)*(s+1)*(s+1)*(s+1)*(s+11)";
    Check.due("sixty bytes", longest.length(), 60);
    Check.due("sixty bytes", Check.text(x, 1, longest), 1);
    Check.due("law(1)", x.law(1, -2, 0, 0), 0);
    Check.due("law(1)", x.law(1, -1, 0, 0), 0);
    Check.due("law(1)", x.law(1, 0, 0, 0), 9);
  }

  private static void fault(int use, String text, int at) {
    ApronStrings x = new ApronStrings();
    Check.due("text " + text + " for " + use, Check.text(x, use, text), at < 0 ? 1 : -10 - at);
    Check.due("it is there", x.untell(use), at < 0 ? 1 : 0);
  }

  private static void faults() {
    Check.about("11, faults");
    fault(0, "", 0);
    fault(0, "y", -1);
    fault(0, "o", 0);
    fault(1, "o", -1);
    fault(1, "y", 0);
    fault(1, "s+y", 2);
    fault(0, "s+", 2);
    fault(0, "+s", 0);
    fault(0, "-1", 0);
    fault(0, "s s", 1);
    fault(0, "1234", -1);
    fault(0, "0000", -1);
    fault(0, "12345", 4);
    fault(0, "1234+12345", 9);
    fault(0, "1s", 1);
    fault(0, "sd", 1);
    fault(0, "s(", 1);
    fault(0, "s!", 1);
    fault(0, "()", 1);
    fault(0, "(", 1);
    fault(0, "(s", 2);
    fault(0, "s)", 1);
    fault(0, "(s))", 3);
    fault(0, "(s)(s)", 3);
    fault(0, "!", 1);
    fault(0, "s<s<s", 3);
    fault(0, "s<s+1=s", 5);
    fault(0, "s*1>s*1>1", 7);
    fault(0, "s<=s", 2);
    fault(0, "s<s&s<s|s=s", -1);
    fault(0, "(s<s)<s", -1);
    fault(0, "s&&s", 2);
    fault(0, "s||s", 2);
    fault(0, "!!!!!s", -1);
    fault(0, "!!!!!!s", 5);
    fault(0, "(((((s)))))", -1);
    fault(0, "((((((s))))))", 5);
    fault(0, "(((((s))))", 10);
    fault(0, "!(!(!s))", -1);
    fault(0, "!(!(!!s))", 5);
    fault(0, "!(!(!(s)))", 5);
    fault(0, "!!!!!s+!!!!!s", -1);
    fault(0, "(((((s)))))*(((((s)))))", -1);
    fault(0, "((!!!s+!!!s)*!!!!s)", -1);
    fault(0, "((!!!s+!!!s)*!!!!!s)", 17);
    fault(0, "\u0000", 0);
    fault(0, "s\u00e9", 1);
    fault(0, "S", 0);
  }

  private static void untell() {
    Check.about("12");
    ApronStrings x = new ApronStrings();
    Check.text(x, 0, "3");
    Check.due("untell(1)", x.untell(1), 0);
    Check.due("law(0)", x.law(0, 1, 0, 0), 3);
    Check.due("untell(2)", x.untell(2), Check.BEYOND);
    Check.due("untell(-1)", x.untell(-1), Check.BEYOND);
    Check.due("untell(0)", x.untell(0), 1);
    Check.due("law(0)", x.law(0, 1, 0, 0), 1);
    Check.due("untell(0) again", x.untell(0), 0);
  }

  private static void worth(String text, int want) {
    ApronStrings x = new ApronStrings();
    Check.due("text " + text, Check.text(x, 1, text), 1);
    Check.due("worth of " + text, x.law(1, 3, 5, -2), want);
  }

  /** Here s is 3, o is 5, d is -2. */
  private static void worth() {
    Check.about("13, worth of texts");
    worth("s", 3);
    worth("o", 5);
    worth("d+9", 7);
    worth("1+2*3", 7);
    worth("(1+2)*3", 9);
    worth("9-3-2", 4);
    worth("9-(3-2)", 8);
    worth("8/2/2", 2);
    worth("9/2*2", 8);
    worth("9%5*2", 8);
    worth("2*9%5", 3);
    worth("7/2", 3);
    worth("(0-7)/2+9", 6);
    worth("(0-7)%4+9", 6);
    worth("7/d+9", 6);
    worth("7%d", 1);
    worth("5/0+1", 1);
    worth("5%0+1", 1);
    worth("0007", 7);
    worth("s<o", 1);
    worth("o<s", 0);
    worth("s<s", 0);
    worth("s>d", 1);
    worth("d>s", 0);
    worth("s>s", 0);
    worth("s=3", 1);
    worth("s=o", 0);
    worth("3<4+1", 1);
    worth("2*2=1+3", 1);
    worth("(s<o)+(o>s)", 2);
    worth("!s+4", 4);
    worth("!(s-3)+4", 5);
    worth("!0*3", 3);
    worth("!!7", 1);
    worth("!!!7", 0);
    worth("!(0)", 1);
    worth("2|4", 1);
    worth("2&4", 1);
    worth("2&0", 0);
    worth("0&2", 0);
    worth("1&1", 1);
    worth("0|1", 1);
    worth("1|0", 1);
    worth("0|0", 0);
    worth("0|d", 1);
    worth("1|1&0", 1);
    worth("0&1|1", 1);
    worth("(1|1)&0", 0);
    worth("4&2=2", 1);
    worth("4|2<1", 1);
    worth("0|2<1", 0);
    worth("s-o+5-1*2/2%2", 2);
    worth("9999*9999*9999*0+6", 6);
    worth("d*d*d+9", 1);
  }

  private static void law() {
    Check.about("13");
    ApronStrings x = new ApronStrings();
    Check.due("use 2", x.law(2, 0, 0, 0), Check.BEYOND);
    Check.due("use -1", x.law(-1, 0, 0, 0), Check.BEYOND);
    int[] any = {0, 1, 3, 4, -1, -4, -5, Integer.MAX_VALUE, Integer.MIN_VALUE};
    int[] rests = {0, 1, 3, 0, 3, 0, 3, 3, 0};
    int[] held = {0, 1, 3, 4, 0, 0, 0, 9, 0};
    for (int i = 0; i < any.length; i++) {
      Check.due("law(0) of " + any[i], x.law(0, any[i], 8, 8), rests[i]);
      Check.due("law(1) of " + any[i], x.law(1, any[i], 8, 8), held[i]);
    }
    Check.due("law(1) of 9", x.law(1, 9, 0, 0), 9);
    Check.due("law(1) of 10", x.law(1, 10, 0, 0), 9);
    Check.text(x, 0, "y*100+s*10+d");
    Check.due("y, s, d", x.law(0, 1, 2, 3), 3);
    Check.due("y, s, d", x.law(0, 1, 3, 0), 2);
    Check.due("below 0", x.law(0, 0, 0, -7), 1);
    Check.text(x, 1, "s/o");
    Check.due("the least by -1 wraps", x.law(1, Integer.MIN_VALUE, -1, 0), 0);
    Check.text(x, 1, "s%o+5");
    Check.due("its rest is 0", x.law(1, Integer.MIN_VALUE, -1, 0), 5);
    Check.text(x, 1, "s+o");
    Check.due("a sum wraps", x.law(1, Integer.MAX_VALUE, 1, 0), 0);
    Check.due("a sum wraps", x.law(1, Integer.MIN_VALUE, -1, 0), 9);
    Check.text(x, 1, "s*o+7");
    Check.due("a product wraps", x.law(1, 65536, 65536, 0), 7);
    Check.text(x, 1, "s-o");
    Check.due("a difference wraps", x.law(1, Integer.MIN_VALUE, 1, 0), 9);
  }
}
