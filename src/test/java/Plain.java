import java.util.ArrayList;
import java.util.List;

/**
 * The document once more, as slowly and literally as can be: objects that are copied whole, texts that
 * are split by their grammar each time, errors that are thrown. RandomRunsTest sets it against the class.
 */
final class Plain {
  static final class Err extends RuntimeException {
    final int k;

    Err(int k) {
      super(null, null, false, false);
      this.k = k;
    }
  }

  static final int BEYOND = 1, NONE = 2, STATE = 3, FULL = 4, KIND = 5, PARTED = 6;

  static final class Person {
    int kind, m, mother = -1, cell, out, spare;

    Person twin() {
      Person p = new Person();
      p.kind = kind;
      p.m = m;
      p.mother = mother;
      p.cell = cell;
      p.out = out;
      p.spare = spare;
      return p;
    }
  }

  static final class World {
    List<Person> people = new ArrayList<>();
    int day, cuts, z = 1;
    int[] who = {0, 1, 2, 3, 4, 5};
    int[] way = {1, 1, 1, 1, 1, 1};
    String[] texts = {null, null};
    List<Integer> tape = new ArrayList<>();
    List<Integer> waiting = new ArrayList<>();

    World twin() {
      World w = new World();
      for (Person p : people) w.people.add(p.twin());
      w.day = day;
      w.cuts = cuts;
      w.z = z;
      w.who = who.clone();
      w.way = way.clone();
      w.texts = texts.clone();
      w.tape = new ArrayList<>(tape);
      w.waiting = new ArrayList<>(waiting);
      return w;
    }

    int apart(int i) {
      Person p = people.get(i);
      return p.mother < 0 ? 0 : Math.abs(p.cell - people.get(p.mother).cell);
    }

    int yields(Person p, int as) {
      switch (as) {
        case 0: return 0;
        case 1: return 1;
        case 2: return p.mother >= 0 && p.spare != 0 ? 3 : yields(p, 0);
        case 3: return 2;
        case 4:
          for (Person q : people) if (q.mother == people.indexOf(p)) return 0;
          return yields(p, 1);
        case 5: return p.m > 4 ? yields(p, 2) : 2;
        default: return (day + p.m) % 4;
      }
    }

    int steps(Person p, int as) {
      switch (as) {
        case 0: return 2;
        case 1: return steps(p, 0) + (day % 2 == 1 ? 1 : 0);
        case 2: return steps(p, 0) - 1;
        case 3: return p.m / 5;
        case 4: return steps(p, 1) + p.m;
        case 5: return steps(p, 2) + 3;
        default: return 1;
      }
    }

    int law(int use, int a, int b, int c) {
      int v = texts[use] == null ? a : new Text(use, a, b, c).t(texts[use], 0);
      if (use == 0) {
        v %= 4;
        return v < 0 ? v + 4 : v;
      }
      return v < 0 ? 0 : v > 9 ? 9 : v;
    }

    int does(int i) {
      Person p = people.get(i);
      return law(0, yields(p, p.kind), p.mother >= 0 ? p.spare : 0, day % 8);
    }

    int goes(int i) {
      Person p = people.get(i);
      return law(1, steps(p, p.kind), p.mother >= 0 ? p.out : 0, day % 8);
    }

    void uncouple(int i) {
      Person p = people.get(i);
      p.mother = -1;
      p.out = 0;
      p.spare = 0;
    }

    void snap(int i) {
      uncouple(i);
      cuts = Math.min(9999, cuts + 1);
    }

    boolean step(int one, int toward) {
      Person walker = people.get(one);
      int to = walker.cell + (toward == 1 ? 1 : -1);
      if (to < 0 || to >= 64) return true;
      World before = twin();
      walker.cell = to;
      List<Person> moved = new ArrayList<>();
      moved.add(walker);
      while (true) {
        int s = 0;
        while (s < people.size() && apart(s) <= people.get(s).out) s++;
        if (s == people.size()) return true;
        Person child = people.get(s);
        Person mother = people.get(child.mother);
        if (child.spare > 0) {
          child.spare -= 1;
          child.out += 1;
          continue;
        }
        if (moved.contains(child) && moved.contains(mother)) {
          snap(s);
          continue;
        }
        Person end = moved.contains(child) ? mother : child;
        Person other = end == child ? mother : child;
        int deed = does(people.indexOf(end));
        if (deed == 2) {
          people = before.people;
          cuts = before.cuts;
          return false;
        } else if (deed == 1) {
          snap(s);
        } else if (deed == 3 && end == mother && mother.mother >= 0 && mother.spare > 0) {
          mother.spare -= 1;
          child.out += 1;
        } else {
          end.cell += Integer.compare(other.cell, end.cell);
          moved.add(end);
        }
      }
    }

    void pass() {
      int place = day % 6;
      if (who[place] < people.size()) {
        int times = goes(who[place]);
        for (int i = 0; i < times; i++) if (!step(who[place], way[place])) break;
      }
      day++;
    }

    World later(int n) {
      World w = twin();
      for (int i = 0; i < n; i++) w.pass();
      return w;
    }

    int draw() {
      z = z * 1103515245 + 12345;
      return z >>> 8;
    }

    int owners() {
      int set = 0;
      for (int i = 0; i < people.size(); i++) if (people.get(i).mother >= 0) set |= 1 << i;
      return set;
    }

    List<Integer> line(int one) {
      List<Integer> line = new ArrayList<>();
      for (int i = one; i >= 0; i = people.get(i).mother) line.add(i);
      return line;
    }

    int over(int cell) {
      int set = 0;
      for (int i = 0; i < people.size(); i++) {
        Person p = people.get(i);
        if (p.mother < 0) continue;
        int q = people.get(p.mother).cell;
        if ((p.cell <= cell && cell <= q) || (q <= cell && cell <= p.cell)) set |= 1 << i;
      }
      return set;
    }
  }

  /** Splits by the grammar, from the loosest sign down; a text that is none is told by an exception. */
  static final class Text {
    static final class No extends RuntimeException {
      No() {
        super(null, null, false, false);
      }
    }

    final int use, a, b, c;

    Text(int use, int a, int b, int c) {
      this.use = use;
      this.a = a;
      this.b = b;
      this.c = c;
    }

    static boolean is(int use, String s) {
      try {
        new Text(use, 0, 0, 0).t(s, 0);
        return true;
      } catch (No no) {
        return false;
      }
    }

    /** A prefix goes on to a TEXT if a value (where one is due) and a few ) make it one. */
    static boolean goesOn(int use, String s) {
      String close = "";
      for (int i = 0; i < 7; i++) {
        if (is(use, s + close) || is(use, s + "1" + close)) return true;
        close += ")";
      }
      return false;
    }

    static int fault(int use, String s) {
      for (int i = 0; i < s.length(); i++) if (!goesOn(use, s.substring(0, i + 1))) return i;
      return s.length();
    }

    /** The parts between the signs that stand in no ( ), and these signs. */
    static List<String> split(String s, String signs) {
      List<String> parts = new ArrayList<>();
      int depth = 0, from = 0;
      for (int i = 0; i < s.length(); i++) {
        char ch = s.charAt(i);
        if (ch == '(') depth++;
        if (ch == ')') depth--;
        if (depth < 0) throw new No();
        if (depth == 0 && signs.indexOf(ch) >= 0) {
          parts.add(s.substring(from, i));
          parts.add("" + ch);
          from = i + 1;
        }
      }
      if (depth != 0) throw new No();
      parts.add(s.substring(from));
      return parts;
    }

    int t(String s, int open) {
      List<String> parts = split(s, "|");
      int v = a(parts.get(0), open);
      for (int i = 2; i < parts.size(); i += 2) {
        int w = a(parts.get(i), open);
        v = v != 0 || w != 0 ? 1 : 0;
      }
      return v;
    }

    int a(String s, int open) {
      List<String> parts = split(s, "&");
      int v = b(parts.get(0), open);
      for (int i = 2; i < parts.size(); i += 2) {
        int w = b(parts.get(i), open);
        v = v != 0 && w != 0 ? 1 : 0;
      }
      return v;
    }

    int b(String s, int open) {
      List<String> parts = split(s, "<=>");
      if (parts.size() > 3) throw new No();
      int v = sum(parts.get(0), open);
      if (parts.size() == 1) return v;
      int w = sum(parts.get(2), open);
      switch (parts.get(1)) {
        case "<": return v < w ? 1 : 0;
        case ">": return v > w ? 1 : 0;
        default: return v == w ? 1 : 0;
      }
    }

    int sum(String s, int open) {
      List<String> parts = split(s, "+-");
      int v = p(parts.get(0), open);
      for (int i = 2; i < parts.size(); i += 2) {
        int w = p(parts.get(i), open);
        v = parts.get(i - 1).equals("+") ? v + w : v - w;
      }
      return v;
    }

    int p(String s, int open) {
      List<String> parts = split(s, "*/%");
      int v = q(parts.get(0), open);
      for (int i = 2; i < parts.size(); i += 2) {
        int w = q(parts.get(i), open);
        switch (parts.get(i - 1)) {
          case "*": v *= w; break;
          case "/": v = w == 0 ? 0 : v / w; break;
          default: v = w == 0 ? 0 : v % w; break;
        }
      }
      return v;
    }

    int q(String s, int open) {
      if (s.matches("[0-9]{1,4}")) return Integer.parseInt(s);
      String names = use == 0 ? "ysd" : "sod";
      if (s.length() == 1 && names.indexOf(s) >= 0) {
        return names.indexOf(s) == 0 ? a : names.indexOf(s) == 1 ? b : c;
      }
      if (open == 5) throw new No();
      if (s.startsWith("!")) return q(s.substring(1), open + 1) == 0 ? 1 : 0;
      if (s.startsWith("(") && s.endsWith(")") && s.length() > 1) {
        return t(s.substring(1, s.length() - 1), open + 1);
      }
      throw new No();
    }
  }

  static final class Sheet {
    int bits;
    long[] numbers;
  }

  static final int[] UNDER = {-1, 0, 0, 0, 1, 2, 0};

  World w = new World();
  World image;
  int images;
  Sheet[] sheets = new Sheet[4];
  List<Integer> trace = new ArrayList<>();
  int[] errors = new int[7];

  interface Act {
    int answer();
  }

  int tell(Act act) {
    try {
      return act.answer();
    } catch (Err e) {
      errors[e.k]++;
      return -1000000000 - e.k;
    }
  }

  void ask(boolean fine, int k) {
    if (!fine) throw new Err(k);
  }

  void in(int v, int from, int to) {
    ask(from <= v && v <= to, BEYOND);
  }

  void person(int one) {
    in(one, 0, w.people.size() - 1);
  }

  int one(int km, int mother, int cell, int spare) {
    return tell(() -> {
      in(km, 0, 69);
      in(mother, -1, w.people.size() - 1);
      in(cell, 0, 63);
      in(spare, 0, 99);
      ask(w.people.size() < 8, FULL);
      Person p = new Person();
      p.kind = km / 10;
      p.m = km % 10;
      p.mother = mother;
      p.cell = cell;
      if (mother >= 0) {
        p.out = Math.abs(cell - w.people.get(mother).cell);
        p.spare = spare;
      }
      w.people.add(p);
      return w.people.size() - 1;
    });
  }

  int oneIs(int one, int what) {
    return tell(() -> {
      person(one);
      in(what, 0, 8);
      Person p = w.people.get(one);
      int[] is = {p.kind, p.m, p.mother, p.cell, p.out, p.spare, w.apart(one), w.does(one), w.goes(one)};
      return is[what];
    });
  }

  int become(int one, int km) {
    return tell(() -> {
      person(one);
      in(km, 0, 69);
      Person p = w.people.get(one);
      int was = p.kind;
      p.kind = km / 10;
      p.m = km % 10;
      return was;
    });
  }

  int as(int one, int kind) {
    return tell(() -> {
      person(one);
      in(kind, 0, 6);
      for (int k = w.people.get(one).kind; k >= 0; k = UNDER[k]) if (k == kind) return w.people.get(one).m;
      throw new Err(KIND);
    });
  }

  int reel(int one, int v) {
    return tell(() -> {
      person(one);
      in(v, 0, 99);
      Person p = w.people.get(one);
      ask(p.mother >= 0, STATE);
      int was = p.spare;
      p.spare = v;
      return was;
    });
  }

  int cut(int one) {
    return tell(() -> {
      person(one);
      int was = w.people.get(one).mother;
      ask(was >= 0, STATE);
      w.uncouple(one);
      return was;
    });
  }

  int list(int place, int one, int way) {
    return tell(() -> {
      in(place, 0, 5);
      in(one, 0, 7);
      in(way, 0, 1);
      int was = 10 * w.who[place] + w.way[place];
      w.who[place] = one;
      w.way[place] = way;
      return was;
    });
  }

  int listed(int place) {
    return tell(() -> {
      in(place, 0, 5);
      return 10 * w.who[place] + w.way[place];
    });
  }

  int feed(long word, int n) {
    return tell(() -> {
      in(n, 1, 8);
      ask(w.tape.size() + n <= 60, FULL);
      long rest = word;
      for (int i = 0; i < n; i++) {
        w.tape.add((int) (rest & 255));
        rest >>= 8;
      }
      return w.tape.size();
    });
  }

  int text(int use) {
    return tell(() -> {
      in(use, 0, 1);
      StringBuilder s = new StringBuilder();
      for (int b : w.tape) s.append((char) b);
      w.tape.clear();
      if (!Text.is(use, s.toString())) return -10 - Text.fault(use, s.toString());
      w.texts[use] = s.toString();
      return 1;
    });
  }

  int untell(int use) {
    return tell(() -> {
      in(use, 0, 1);
      int was = w.texts[use] == null ? 0 : 1;
      w.texts[use] = null;
      return was;
    });
  }

  int law(int use, int a, int b, int c) {
    return tell(() -> {
      in(use, 0, 1);
      return w.law(use, a, b, c);
    });
  }

  int days(int n) {
    return tell(() -> {
      in(n, 1, 60);
      ask(w.day + n <= 9999, STATE);
      for (int i = 0; i < n; i++) w.pass();
      return w.cuts;
    });
  }

  int loose(int n) {
    return tell(() -> {
      in(n, 1, 30);
      ask(w.day + n <= 9999, STATE);
      for (int i = 0; i < n; i++) {
        w.who[w.day % 6] = w.draw() % 8;
        w.way[w.day % 6] = w.draw() % 2;
        w.pass();
      }
      return w.cuts;
    });
  }

  int day(int v) {
    return tell(() -> {
      in(v, 0, 9999);
      int was = w.day;
      w.day = v;
      return was;
    });
  }

  int seed(int v) {
    int was = w.z;
    w.z = v;
    return was;
  }

  int line(int one) {
    return tell(() -> {
      person(one);
      int set = 0;
      for (int i : w.line(one)) set |= 1 << i;
      return set;
    });
  }

  int between(int a, int b) {
    return tell(() -> {
      person(a);
      person(b);
      List<Integer> la = w.line(a), lb = w.line(b);
      for (int i = 0; i < la.size(); i++) {
        int j = lb.indexOf(la.get(i));
        if (j < 0) continue;
        int sum = 0;
        for (int x : la.subList(0, i)) sum += w.people.get(x).out;
        for (int x : lb.subList(0, j)) sum += w.people.get(x).out;
        return sum;
      }
      throw new Err(NONE);
    });
  }

  int over(int cell) {
    return tell(() -> {
      in(cell, 0, 63);
      return w.over(cell);
    });
  }

  int knot(int what) {
    return tell(() -> {
      in(what, 0, 1);
      int best = 0;
      for (int c = 63; c >= 0; c--) {
        if (Integer.bitCount(w.over(c)) >= Integer.bitCount(w.over(best))) best = c;
      }
      return what == 0 ? best : Integer.bitCount(w.over(best));
    });
  }

  static boolean truly(int cell, int[] ends) {
    return Math.min(ends[0], ends[1]) < cell && cell < Math.max(ends[0], ends[1]);
  }

  static boolean justOne(int[] a, int[] b) {
    return truly(a[0], b) != truly(a[1], b);
  }

  int crossings() {
    List<int[]> ends = new ArrayList<>();
    for (Person p : w.people) if (p.mother >= 0) ends.add(new int[] {p.cell, w.people.get(p.mother).cell});
    int n = 0;
    for (int i = 0; i < ends.size(); i++) {
      for (int j = i + 1; j < ends.size(); j++) {
        int[] a = ends.get(i), b = ends.get(j);
        boolean touch = a[0] == b[0] || a[0] == b[1] || a[1] == b[0] || a[1] == b[1];
        if (!touch && justOne(a, b) && justOne(b, a)) n++;
      }
    }
    return n;
  }

  int then(int one, int n) {
    return tell(() -> {
      person(one);
      in(n, 0, 60);
      return w.later(n).people.get(one).cell;
    });
  }

  int strings(int n) {
    return tell(() -> {
      in(n, 0, 60);
      return w.later(n).owners();
    });
  }

  int soonest(int one, int cell) {
    return tell(() -> {
      person(one);
      in(cell, 0, 63);
      World v = w.twin();
      for (int n = 0; n <= 60; n++) {
        if (v.people.get(one).cell == cell) return n;
        v.pass();
      }
      throw new Err(NONE);
    });
  }

  boolean has(int one, int spare, int n) {
    World v = w.twin();
    v.people.get(one).spare = spare;
    return v.later(n).people.get(one).mother >= 0;
  }

  int spareFor(int one, int n) {
    return tell(() -> {
      person(one);
      in(n, 0, 40);
      ask(w.people.get(one).mother >= 0, STATE);
      for (int v = 0; v < 100; v++) if (has(one, v, n)) return v;
      throw new Err(NONE);
    });
  }

  int freeFor(int one, int n) {
    return tell(() -> {
      person(one);
      in(n, 0, 40);
      int best = -1;
      for (int set = 0; set < 256; set++) {
        if ((set & ~w.owners()) != 0) continue;
        if (best >= 0 && Integer.bitCount(set) >= Integer.bitCount(best)) continue;
        World v = w.twin();
        for (int i = 0; i < v.people.size(); i++) if ((set & 1 << i) != 0) v.uncouple(i);
        if (v.later(n).people.get(one).cell == w.people.get(one).cell) best = set;
      }
      ask(best >= 0, NONE);
      return best;
    });
  }

  int odds(int one, int n, int part) {
    return tell(() -> {
      person(one);
      in(n, 0, 40);
      in(part, 0, 1);
      ask(w.people.get(one).mother >= 0, STATE);
      int good = 0;
      for (int v = 0; v <= 31; v++) if (has(one, v, n)) good++;
      int by = 32;
      for (int f = 32; f > 1; f--) {
        if (good % f == 0 && by % f == 0) {
          good /= f;
          by /= f;
        }
      }
      return part == 0 ? good : by;
    });
  }

  int fits(int sheet, int one, int what) {
    return tell(() -> {
      in(sheet, 0, 3);
      person(one);
      in(what, 0, 1);
      ask(sheets[sheet] != null, NONE);
      int set = 0;
      for (int kind = 0; kind < 7; kind++) {
        World v = w.twin();
        v.people.get(one).kind = kind;
        boolean so = true;
        for (long cell : sheets[sheet].numbers) {
          so &= v.people.get(one).cell == cell;
          v.pass();
        }
        if (so) set |= 1 << kind;
      }
      return what == 0 ? set : Integer.bitCount(set);
    });
  }

  /** The BODIES as methods of classes, as their words have it. */
  class Mother {
    int k, m;

    void began(int body) {
      if (trace.size() < 30) trace.add(body);
    }

    int ties(int x) {
      began(10);
      return x + k;
    }

    int lets(int x) {
      began(11);
      return ties(x) * 2;
    }

    int pulls(int x) {
      began(12);
      return lets(x) - m;
    }

    int parts(int x) {
      began(13);
      if (m - k == 0) throw new Err(PARTED);
      return x / (m - k);
    }
  }

  class Bride extends Mother {
    @Override int ties(int x) {
      began(20);
      return super.ties(x) - 4;
    }

    @Override int parts(int x) {
      began(21);
      return super.parts(x) + lets(1);
    }
  }

  class Clerk extends Mother {
    @Override int lets(int x) {
      began(30);
      return 0 - super.lets(x);
    }
  }

  class Granny extends Mother {
    @Override int pulls(int x) {
      began(40);
      return super.pulls(x / 2);
    }
  }

  class Arctic extends Bride {
    @Override int ties(int x) {
      began(50);
      return super.ties(x) * 3;
    }

    @Override int pulls(int x) {
      began(51);
      return super.pulls(x) ^ k;
    }
  }

  class Boy extends Clerk {
    @Override int lets(int x) {
      began(60);
      return super.lets(x + 1);
    }
  }

  class Copper extends Mother {
    @Override int ties(int x) {
      began(70);
      return 9;
    }

    @Override int lets(int x) {
      began(71);
      return super.lets(x) + m;
    }
  }

  int voice(int one, int voice, int x) {
    return tell(() -> {
      person(one);
      in(voice, 0, 3);
      Mother[] kinds = {
        new Mother(), new Bride(), new Clerk(), new Granny(), new Arctic(), new Boy(), new Copper()
      };
      Mother who = kinds[w.people.get(one).kind];
      who.k = one;
      who.m = w.people.get(one).m;
      trace = new ArrayList<>();
      return voice == 0 ? who.ties(x) : voice == 1 ? who.lets(x) : voice == 2 ? who.pulls(x) : who.parts(x);
    });
  }

  int body(int i) {
    return tell(() -> {
      ask(0 <= i && i < trace.size(), NONE);
      return trace.get(i);
    });
  }

  int sheet(int sheet, int bits, int n) {
    return tell(() -> {
      in(sheet, 0, 3);
      ask(bits == 0 || bits == 8 || bits == 16 || bits == 32, BEYOND);
      if (bits == 0) {
        sheets[sheet] = null;
        return 1;
      }
      ask(n >= 0, STATE);
      ask(n <= 24, BEYOND);
      sheets[sheet] = new Sheet();
      sheets[sheet].bits = bits;
      sheets[sheet].numbers = new long[n];
      return 1;
    });
  }

  int put(int sheet, int i, int v) {
    return tell(() -> {
      in(sheet, 0, 3);
      ask(sheets[sheet] != null, NONE);
      in(i, 0, sheets[sheet].numbers.length - 1);
      sheets[sheet].numbers[i] = Math.floorMod((long) v, 1L << sheets[sheet].bits);
      return 1;
    });
  }

  int move(int sheet, int i, int other, int j, int n) {
    return tell(() -> {
      in(sheet, 0, 3);
      in(other, 0, 3);
      ask(sheets[sheet] != null && sheets[other] != null, NONE);
      ask(sheets[sheet].bits == sheets[other].bits, KIND);
      ask(n >= 0 && i >= 0 && j >= 0, BEYOND);
      ask((long) i + n <= sheets[sheet].numbers.length, BEYOND);
      ask((long) j + n <= sheets[other].numbers.length, BEYOND);
      long[] were = sheets[sheet].numbers.clone();
      for (int x = 0; x < n; x++) sheets[other].numbers[j + x] = were[i + x];
      return n;
    });
  }

  int reels(int sheet) {
    return tell(() -> {
      in(sheet, 0, 3);
      ask(sheets[sheet] != null, NONE);
      int i = 0;
      for (long v : sheets[sheet].numbers) {
        if (v < 0 || v > 99 || i >= w.people.size()) break;
        if (w.people.get(i).mother >= 0) w.people.get(i).spare = (int) v;
        i++;
      }
      return i;
    });
  }

  int judge(int sheet) {
    return tell(() -> {
      in(sheet, 0, 3);
      ask(sheets[sheet] != null, NONE);
      int i = 0;
      for (long v : sheets[sheet].numbers) {
        if (i >= w.people.size() || w.people.get(i).cell != v) break;
        i++;
      }
      return i;
    });
  }

  int image() {
    image = w.twin();
    return ++images;
  }

  int restore() {
    return tell(() -> {
      ask(image != null, NONE);
      w = image.twin();
      return w.day;
    });
  }

  int tell(int v) {
    return tell(() -> {
      ask(w.waiting.size() < 24, FULL);
      w.waiting.add(v);
      return w.waiting.size();
    });
  }

  int check() {
    List<Integer> asked = w.waiting;
    w.waiting = new ArrayList<>();
    for (int i = 0; i < asked.size(); i++) {
      if (i >= w.people.size() || w.goes(i) != asked.get(i)) return 1 + i;
    }
    return 0;
  }

  int count(int what) {
    return tell(() -> {
      in(what, 0, 9);
      int out = 0, spare = 0;
      for (Person p : w.people) {
        out += p.out;
        spare += p.spare;
      }
      int[] counts = {
        w.people.size(), w.day, w.cuts, w.owners(), out, spare, w.tape.size(), w.waiting.size(), trace.size(), w.z
      };
      return counts[what];
    });
  }

  int told(int k) {
    return tell(() -> {
      in(k, 1, 6);
      return errors[k];
    });
  }
}
