/**
 * A road of cells, people on it, and the strings by which they hang on their mothers. What each call
 * answers is told in ../shared/DOC.md; the words in capitals in these comments are those of its Terms.
 */
public final class ApronStrings {
  private static final int LOW = -1000000000;
  private static final int BEYOND = 1;
  private static final int NONE = 2;
  private static final int STATE = 3;
  private static final int FULL = 4;
  private static final int KIND = 5;
  private static final int PARTED = 6;

  private static final int MOST_PEOPLE = 8;
  private static final int LAST_CELL = 63;
  private static final int MOST_SPARE = 99;
  private static final int LAST_KM = 69;
  private static final int LAST_KIND = 6;
  private static final int LAST_DAY = 9999;
  private static final int MOST_CUTS = 9999;
  private static final int PLACES = 6;
  private static final int MOST_BYTES = 60;
  private static final int MOST_WAITING = 24;
  private static final int SHEETS = 4;
  private static final int SHEET_NUMBERS = 24;
  private static final int FARTHEST = 60;
  private static final int FAR = 40;
  private static final int CHANCES = 32;

  private final State now = new State();
  private final State kept = new State();
  private final Road road;
  /** What is only thought is played through here, by the TEXTS that hold now. */
  private final Road thought;
  private final Reader reader = new Reader();
  private final Voices voices = new Voices();
  private final Sheet[] sheets = new Sheet[SHEETS];
  private final int[] errors = new int[PARTED + 1];
  private int images;

  public ApronStrings() {
    road = now.road;
    thought = new Road(now.does, now.goes);
    for (int i = 0; i < SHEETS; i++) {
      sheets[i] = new Sheet();
    }
  }

  // ---- people, strings

  public int one(int km, int mother, int cell, int spare) {
    boolean stands = within(cell, LAST_CELL) && within(spare, MOST_SPARE);
    if (!within(km, LAST_KM) || (mother != -1 && !isThere(mother)) || !stands) {
      return refuse(BEYOND);
    }
    if (road.people >= MOST_PEOPLE) {
      return refuse(FULL);
    }
    return road.add(km, mother, cell, spare);
  }

  public int oneIs(int one, int what) {
    if (!isThere(one)) {
      return refuse(BEYOND);
    }
    switch (what) {
      case 0:
        return road.kind[one];
      case 1:
        return road.m[one];
      case 2:
        return road.mother[one];
      case 3:
        return road.cell[one];
      case 4:
        return road.out[one];
      case 5:
        return road.spare[one];
      case 6:
        return road.apart(one);
      case 7:
        return road.doesNow(one);
      case 8:
        return road.goesNow(one);
      default:
        return refuse(BEYOND);
    }
  }

  public int become(int one, int km) {
    if (!isThere(one) || !within(km, LAST_KM)) {
      return refuse(BEYOND);
    }
    int was = road.kind[one];
    road.kind[one] = km / 10;
    road.m[one] = km % 10;
    return was;
  }

  public int as(int one, int kind) {
    if (!isThere(one) || !within(kind, LAST_KIND)) {
      return refuse(BEYOND);
    }
    return Voices.isUnder(road.kind[one], kind) ? road.m[one] : refuse(KIND);
  }

  public int reel(int one, int v) {
    if (!isThere(one) || !within(v, MOST_SPARE)) {
      return refuse(BEYOND);
    }
    if (!road.isTied(one)) {
      return refuse(STATE);
    }
    int was = road.spare[one];
    road.spare[one] = v;
    return was;
  }

  public int cut(int one) {
    if (!isThere(one)) {
      return refuse(BEYOND);
    }
    if (!road.isTied(one)) {
      return refuse(STATE);
    }
    int was = road.mother[one];
    road.untie(one);
    return was;
  }

  public int list(int place, int one, int way) {
    if (!within(place, PLACES - 1) || !within(one, MOST_PEOPLE - 1) || !within(way, 1)) {
      return refuse(BEYOND);
    }
    int was = road.places[place];
    road.places[place] = 10 * one + way;
    return was;
  }

  public int listed(int place) {
    return within(place, PLACES - 1) ? road.places[place] : refuse(BEYOND);
  }

  // ---- texts

  public int feed(long word, int n) {
    if (n < 1 || n > 8) {
      return refuse(BEYOND);
    }
    if (n > MOST_BYTES - now.tape.many) {
      return refuse(FULL);
    }
    for (int i = 0; i < n; i++) {
      now.tape.add((int) (word >>> (8 * i)) & 255);
    }
    return now.tape.many;
  }

  public int text(int use) {
    if (!within(use, 1)) {
      return refuse(BEYOND);
    }
    int fault = reader.read(now.tape, use);
    now.tape.many = 0;
    if (fault >= 0) {
      return -10 - fault;
    }
    lawOf(use).take(reader.parts, reader.many);
    return 1;
  }

  public int untell(int use) {
    if (!within(use, 1)) {
      return refuse(BEYOND);
    }
    int was = lawOf(use).many > 0 ? 1 : 0;
    lawOf(use).many = 0;
    return was;
  }

  public int law(int use, int a, int b, int c) {
    return within(use, 1) ? lawOf(use).gives(a, b, c) : refuse(BEYOND);
  }

  // ---- days

  public int days(int n) {
    if (n < 1 || n > FARTHEST) {
      return refuse(BEYOND);
    }
    if (road.day + n > LAST_DAY) {
      return refuse(STATE);
    }
    road.pass(n);
    return road.cuts;
  }

  public int loose(int n) {
    if (n < 1 || n > 30) {
      return refuse(BEYOND);
    }
    if (road.day + n > LAST_DAY) {
      return refuse(STATE);
    }
    for (int i = 0; i < n; i++) {
      road.drawPlace();
      road.passDay();
    }
    return road.cuts;
  }

  public int day(int v) {
    if (!within(v, LAST_DAY)) {
      return refuse(BEYOND);
    }
    int was = road.day;
    road.day = v;
    return was;
  }

  public int seed(int v) {
    int was = road.z;
    road.z = v;
    return was;
  }

  // ---- lines, knots

  public int line(int one) {
    return isThere(one) ? road.lineOf(one) : refuse(BEYOND);
  }

  public int between(int a, int b) {
    if (!isThere(a) || !isThere(b)) {
      return refuse(BEYOND);
    }
    int both = road.lineOf(a) & road.lineOf(b);
    if (both == 0) {
      return refuse(NONE);
    }
    return road.outUpTo(a, both) + road.outUpTo(b, both);
  }

  public int over(int cell) {
    return within(cell, LAST_CELL) ? road.stringsOver(cell) : refuse(BEYOND);
  }

  public int knot(int what) {
    if (!within(what, 1)) {
      return refuse(BEYOND);
    }
    int where = 0;
    int most = 0;
    for (int cell = 0; cell <= LAST_CELL; cell++) {
      int many = Integer.bitCount(road.stringsOver(cell));
      if (many > most) {
        where = cell;
        most = many;
      }
    }
    return what == 0 ? where : most;
  }

  public int crossings() {
    int many = 0;
    for (int a = 0; a < road.people; a++) {
      for (int b = 0; b < a; b++) {
        if (road.cross(a, b)) {
          many++;
        }
      }
    }
    return many;
  }

  // ---- what would be

  public int then(int one, int n) {
    if (!isThere(one) || !within(n, FARTHEST)) {
      return refuse(BEYOND);
    }
    thought.copy(road);
    thought.pass(n);
    return thought.cell[one];
  }

  public int strings(int n) {
    if (!within(n, FARTHEST)) {
      return refuse(BEYOND);
    }
    thought.copy(road);
    thought.pass(n);
    return thought.tied();
  }

  public int soonest(int one, int cell) {
    if (!isThere(one) || !within(cell, LAST_CELL)) {
      return refuse(BEYOND);
    }
    thought.copy(road);
    for (int n = 0; n <= FARTHEST; n++) {
      if (thought.cell[one] == cell) {
        return n;
      }
      thought.passDay();
    }
    return refuse(NONE);
  }

  public int spareFor(int one, int n) {
    if (!isThere(one) || !within(n, FAR)) {
      return refuse(BEYOND);
    }
    if (!road.isTied(one)) {
      return refuse(STATE);
    }
    for (int v = 0; v <= MOST_SPARE; v++) {
      if (staysTied(one, v, n)) {
        return v;
      }
    }
    return refuse(NONE);
  }

  public int freeFor(int one, int n) {
    if (!isThere(one) || !within(n, FAR)) {
      return refuse(BEYOND);
    }
    int tied = road.tied();
    for (int size = 0; size <= Integer.bitCount(tied); size++) {
      for (int set = 0; set <= tied; set++) {
        boolean asked = (set & ~tied) == 0 && Integer.bitCount(set) == size;
        if (asked && cellWithout(set, one, n) == road.cell[one]) {
          return set;
        }
      }
    }
    return refuse(NONE);
  }

  public int odds(int one, int n, int part) {
    if (!isThere(one) || !within(n, FAR) || !within(part, 1)) {
      return refuse(BEYOND);
    }
    if (!road.isTied(one)) {
      return refuse(STATE);
    }
    int above = 0;
    for (int v = 0; v < CHANCES; v++) {
      if (staysTied(one, v, n)) {
        above++;
      }
    }
    int below = CHANCES;
    for (int i = 0; i < 5; i++) {
      if (above % 2 == 0 && below % 2 == 0) {
        above /= 2;
        below /= 2;
      }
    }
    return part == 0 ? above : below;
  }

  public int fits(int sheet, int one, int what) {
    if (!isSheet(sheet) || !isThere(one) || !within(what, 1)) {
      return refuse(BEYOND);
    }
    if (sheets[sheet].isMissing()) {
      return refuse(NONE);
    }
    int set = 0;
    for (int kind = 0; kind <= LAST_KIND; kind++) {
      if (wentSo(sheets[sheet], one, kind)) {
        set |= 1 << kind;
      }
    }
    return what == 0 ? set : Integer.bitCount(set);
  }

  // ---- voices, sheets, images, what is told

  public int voice(int one, int voice, int x) {
    if (!isThere(one) || !within(voice, 3)) {
      return refuse(BEYOND);
    }
    int answer = voices.begin(road.kind[one], one, road.m[one], voice, x);
    return voices.parted ? refuse(PARTED) : answer;
  }

  public int body(int i) {
    return i >= 0 && i < voices.many ? voices.trace[i] : refuse(NONE);
  }

  public int sheet(int sheet, int bits, int n) {
    if (!isSheet(sheet) || (bits != 0 && bits != 8 && bits != 16 && bits != 32)) {
      return refuse(BEYOND);
    }
    if (bits == 0) {
      sheets[sheet].clear(0, 0);
      return 1;
    }
    if (n < 0) {
      return refuse(STATE);
    }
    if (n > SHEET_NUMBERS) {
      return refuse(BEYOND);
    }
    sheets[sheet].clear(bits, n);
    return 1;
  }

  public int put(int sheet, int i, int v) {
    if (!isSheet(sheet)) {
      return refuse(BEYOND);
    }
    if (sheets[sheet].isMissing()) {
      return refuse(NONE);
    }
    if (i < 0 || i >= sheets[sheet].many) {
      return refuse(BEYOND);
    }
    sheets[sheet].write(i, v);
    return 1;
  }

  public int move(int sheet, int i, int other, int j, int n) {
    if (!isSheet(sheet) || !isSheet(other)) {
      return refuse(BEYOND);
    }
    Sheet from = sheets[sheet];
    Sheet to = sheets[other];
    if (from.isMissing() || to.isMissing()) {
      return refuse(NONE);
    }
    if (from.bits != to.bits) {
      return refuse(KIND);
    }
    if (!from.hasRun(i, n) || !to.hasRun(j, n)) {
      return refuse(BEYOND);
    }
    System.arraycopy(from.numbers, i, to.numbers, j, n);
    return n;
  }

  public int reels(int sheet) {
    if (!isSheet(sheet)) {
      return refuse(BEYOND);
    }
    Sheet from = sheets[sheet];
    if (from.isMissing()) {
      return refuse(NONE);
    }
    int done = 0;
    for (int i = 0; i < from.many && i < road.people; i++) {
      if (!within(from.numbers[i], MOST_SPARE)) {
        return done;
      }
      if (road.isTied(i)) {
        road.spare[i] = from.numbers[i];
      }
      done++;
    }
    return done;
  }

  public int judge(int sheet) {
    if (!isSheet(sheet)) {
      return refuse(BEYOND);
    }
    Sheet asked = sheets[sheet];
    if (asked.isMissing()) {
      return refuse(NONE);
    }
    int right = 0;
    for (int i = 0; i < asked.many && i < road.people; i++) {
      if (asked.numbers[i] != road.cell[i]) {
        return right;
      }
      right++;
    }
    return right;
  }

  public int image() {
    kept.copy(now);
    images++;
    return images;
  }

  public int restore() {
    if (images == 0) {
      return refuse(NONE);
    }
    now.copy(kept);
    return road.day;
  }

  public int tell(int v) {
    if (now.waiting.many >= MOST_WAITING) {
      return refuse(FULL);
    }
    now.waiting.add(v);
    return now.waiting.many;
  }

  public int check() {
    int asked = now.waiting.many;
    now.waiting.many = 0;
    for (int i = 0; i < asked; i++) {
      if (!isThere(i) || now.waiting.numbers[i] != road.goesNow(i)) {
        return i + 1;
      }
    }
    return 0;
  }

  public int count(int what) {
    switch (what) {
      case 0:
        return road.people;
      case 1:
        return road.day;
      case 2:
        return road.cuts;
      case 3:
        return road.tied();
      case 4:
        return road.sum(road.out);
      case 5:
        return road.sum(road.spare);
      case 6:
        return now.tape.many;
      case 7:
        return now.waiting.many;
      case 8:
        return voices.many;
      case 9:
        return road.z;
      default:
        return refuse(BEYOND);
    }
  }

  public int told(int k) {
    return k >= BEYOND && k <= PARTED ? errors[k] : refuse(BEYOND);
  }

  // ---- what the calls share

  private int refuse(int error) {
    if (error >= BEYOND && error <= PARTED) {
      errors[error]++;
    }
    return LOW - error;
  }

  private static boolean within(int v, int last) {
    return v >= 0 && v <= last;
  }

  private boolean isThere(int one) {
    return one >= 0 && one < road.people;
  }

  private static boolean isSheet(int sheet) {
    return sheet >= 0 && sheet < SHEETS;
  }

  private Law lawOf(int use) {
    return use == 0 ? now.does : now.goes;
  }

  /** A string that is gone never comes back, so the days behind that need not be played. */
  private boolean staysTied(int one, int spare, int n) {
    thought.copy(road);
    thought.spare[one] = spare;
    for (int i = 0; i < n && thought.isTied(one); i++) {
      thought.passDay();
    }
    return thought.isTied(one);
  }

  private int cellWithout(int set, int one, int n) {
    thought.copy(road);
    for (int i = 0; i < thought.people; i++) {
      if ((set >> i & 1) != 0) {
        thought.untie(i);
      }
    }
    for (int i = 0; i < n; i++) {
      thought.passDay();
    }
    return thought.cell[one];
  }

  private boolean wentSo(Sheet told, int one, int kind) {
    thought.copy(road);
    thought.kind[one] = kind;
    for (int i = 0; i < told.many; i++) {
      if (told.numbers[i] != thought.cell[one]) {
        return false;
      }
      thought.passDay();
    }
    return true;
  }

  /** All that an IMAGE keeps. */
  private static final class State {
    final Law does = new Law(0);
    final Law goes = new Law(1);
    final Road road = new Road(does, goes);
    final Row tape = new Row(MOST_BYTES);
    final Row waiting = new Row(MOST_WAITING);

    void copy(State other) {
      does.take(other.does.parts, other.does.many);
      goes.take(other.goes.parts, other.goes.many);
      road.copy(other.road);
      tape.copy(other.tape);
      waiting.copy(other.waiting);
    }
  }

  /** Numbers one behind the other, as many as there is room for. */
  private static final class Row {
    final int[] numbers;
    int many;

    Row(int room) {
      numbers = new int[room > 0 ? room : 0];
    }

    void add(int v) {
      if (many < numbers.length) {
        numbers[many] = v;
        many++;
      }
    }

    /** For rows with the same room. */
    void copy(Row other) {
      for (int i = 0; i < other.many && i < numbers.length; i++) {
        numbers[i] = other.numbers[i];
      }
      many = other.many;
    }
  }

  private static final class Sheet {
    final int[] numbers = new int[SHEET_NUMBERS];
    int many;
    int bits;

    boolean isMissing() {
      return bits == 0;
    }

    void clear(int bitsOfEach, int n) {
      bits = bitsOfEach;
      many = n;
      for (int i = 0; i < SHEET_NUMBERS; i++) {
        numbers[i] = 0;
      }
    }

    void write(int i, int v) {
      numbers[i] = bits == 32 ? v : v & ((1 << bits) - 1);
    }

    /** Asked by what is left behind i, for i and n together may wrap. */
    boolean hasRun(int i, int n) {
      return n >= 0 && i >= 0 && i <= many && n <= many - i;
    }
  }

  /** The people with their strings, THE LIST, and the days that go by. */
  private static final class Road {
    private static final int COMES = 0;
    private static final int CUTS = 1;
    private static final int HOLDS = 2;
    private static final int GIVES = 3;
    /** In a STEP everybody moves once at most, so far fewer turns are ever needed. */
    private static final int MOST_TURNS = 10000;

    final Law does;
    final Law goes;
    final int[] kind = new int[MOST_PEOPLE];
    final int[] m = new int[MOST_PEOPLE];
    final int[] mother = new int[MOST_PEOPLE];
    final int[] cell = new int[MOST_PEOPLE];
    final int[] out = new int[MOST_PEOPLE];
    final int[] spare = new int[MOST_PEOPLE];
    final int[] places = {1, 11, 21, 31, 41, 51};
    int people;
    int day;
    int cuts;
    int z = 1;
    private final int[] ahead = new int[4 * MOST_PEOPLE + 1];
    private int moved;

    Road(Law does, Law goes) {
      this.does = does;
      this.goes = goes;
    }

    /** All but the TEXTS, by which another road may go as well. */
    void copy(Road other) {
      System.arraycopy(other.kind, 0, kind, 0, MOST_PEOPLE);
      System.arraycopy(other.m, 0, m, 0, MOST_PEOPLE);
      System.arraycopy(other.mother, 0, mother, 0, MOST_PEOPLE);
      System.arraycopy(other.cell, 0, cell, 0, MOST_PEOPLE);
      System.arraycopy(other.out, 0, out, 0, MOST_PEOPLE);
      System.arraycopy(other.spare, 0, spare, 0, MOST_PEOPLE);
      System.arraycopy(other.places, 0, places, 0, PLACES);
      people = other.people;
      day = other.day;
      cuts = other.cuts;
      z = other.z;
    }

    int add(int km, int hers, int at, int toSpare) {
      int one = people;
      kind[one] = km / 10;
      m[one] = km % 10;
      cell[one] = at;
      mother[one] = hers;
      spare[one] = hers >= 0 ? toSpare : 0;
      out[one] = apart(one);
      people++;
      return one;
    }

    boolean isTied(int one) {
      return mother[one] >= 0;
    }

    int tied() {
      int set = 0;
      for (int i = 0; i < people; i++) {
        if (isTied(i)) {
          set |= 1 << i;
        }
      }
      return set;
    }

    void untie(int one) {
      mother[one] = -1;
      out[one] = 0;
      spare[one] = 0;
    }

    int apart(int one) {
      int hers = mother[one];
      return hers >= 0 ? Math.abs(cell[one] - cell[hers]) : 0;
    }

    int sum(int[] of) {
      int all = 0;
      for (int i = 0; i < people; i++) {
        all += of[i];
      }
      return all;
    }

    int lineOf(int one) {
      int set = 0;
      int at = one;
      for (int up = 0; up < MOST_PEOPLE && at >= 0; up++) {
        set |= 1 << at;
        at = mother[at];
      }
      return set;
    }

    int outUpTo(int one, int set) {
      int all = 0;
      int at = one;
      for (int up = 0; up < MOST_PEOPLE && at >= 0 && (set >> at & 1) == 0; up++) {
        all += out[at];
        at = mother[at];
      }
      return all;
    }

    private int low(int one) {
      int hers = mother[one];
      return hers >= 0 ? Math.min(cell[one], cell[hers]) : cell[one];
    }

    private int high(int one) {
      return low(one) + apart(one);
    }

    int stringsOver(int at) {
      int set = 0;
      for (int i = 0; i < people; i++) {
        if (isTied(i) && low(i) <= at && at <= high(i)) {
          set |= 1 << i;
        }
      }
      return set;
    }

    boolean cross(int a, int b) {
      if (!isTied(a) || !isTied(b)) {
        return false;
      }
      boolean fromA = low(a) < low(b) && low(b) < high(a) && high(a) < high(b);
      boolean fromB = low(b) < low(a) && low(a) < high(b) && high(b) < high(a);
      return fromA || fromB;
    }

    int doesNow(int one) {
      return does.gives(yielding(one), spare[one], day % 8);
    }

    int goesNow(int one) {
      return goes.gives(steps(one), out[one], day % 8);
    }

    private int yielding(int one) {
      switch (kind[one]) {
        case 0:
          return COMES;
        case 1:
          return CUTS;
        case 2:
          return spare[one] > 0 ? GIVES : COMES;
        case 3:
          return HOLDS;
        case 4:
          return hasChildren(one) ? COMES : CUTS;
        case 5:
          if (m[one] <= 4) {
            return HOLDS;
          }
          return spare[one] > 0 ? GIVES : COMES;
        default:
          return (day + m[one]) % 4;
      }
    }

    private boolean hasChildren(int one) {
      for (int i = one + 1; i < people; i++) {
        if (mother[i] == one) {
          return true;
        }
      }
      return false;
    }

    private int steps(int one) {
      switch (kind[one]) {
        case 0:
          return 2;
        case 1:
          return 2 + day % 2;
        case 2:
          return 1;
        case 3:
          return m[one] / 5;
        case 4:
          return 2 + day % 2 + m[one];
        case 5:
          return 4;
        default:
          return 1;
      }
    }

    void pass(int n) {
      for (int i = 0; i < n; i++) {
        passDay();
      }
    }

    void passDay() {
      int listed = places[day % PLACES];
      int one = listed / 10;
      if (one < people) {
        int far = goesNow(one);
        boolean done = true;
        for (int i = 0; i < far && done; i++) {
          done = step(one, listed % 10);
        }
      }
      day++;
    }

    void drawPlace() {
      int one = draw() % MOST_PEOPLE;
      int way = draw() % 2;
      places[day % PLACES] = 10 * one + way;
    }

    private int draw() {
      z = z * 1103515245 + 12345;
      return z >>> 8;
    }

    /** Whether it was done; where the road ends it is not, for no further one would be either. */
    private boolean step(int one, int way) {
      int to = way == 0 ? cell[one] - 1 : cell[one] + 1;
      if (to < 0 || to > LAST_CELL) {
        return false;
      }
      keep();
      cell[one] = to;
      moved = 1 << one;
      for (int turn = 0; turn < MOST_TURNS; turn++) {
        int tight = leastTooShort();
        if (tight < 0) {
          return true;
        }
        if (spare[tight] > 0) {
          letOut(tight, tight);
          continue;
        }
        int end = unmovedEnd(tight);
        int deed = end < 0 ? CUTS : doesNow(end);
        if (deed == HOLDS) {
          putBack();
          return false;
        }
        pull(tight, end, deed);
      }
      return true;
    }

    private void keep() {
      System.arraycopy(mother, 0, ahead, 0, MOST_PEOPLE);
      System.arraycopy(cell, 0, ahead, MOST_PEOPLE, MOST_PEOPLE);
      System.arraycopy(out, 0, ahead, 2 * MOST_PEOPLE, MOST_PEOPLE);
      System.arraycopy(spare, 0, ahead, 3 * MOST_PEOPLE, MOST_PEOPLE);
      ahead[4 * MOST_PEOPLE] = cuts;
    }

    private void putBack() {
      System.arraycopy(ahead, 0, mother, 0, MOST_PEOPLE);
      System.arraycopy(ahead, MOST_PEOPLE, cell, 0, MOST_PEOPLE);
      System.arraycopy(ahead, 2 * MOST_PEOPLE, out, 0, MOST_PEOPLE);
      System.arraycopy(ahead, 3 * MOST_PEOPLE, spare, 0, MOST_PEOPLE);
      cuts = ahead[4 * MOST_PEOPLE];
    }

    private int leastTooShort() {
      for (int i = 0; i < people; i++) {
        int hers = mother[i];
        if (hers >= 0 && Math.abs(cell[i] - cell[hers]) > out[i]) {
          return i;
        }
      }
      return -1;
    }

    /** THE END that is pulled: -1, if both have MOVED. */
    private int unmovedEnd(int one) {
      if ((moved >> one & 1) == 0) {
        return one;
      }
      int hers = mother[one];
      return (moved >> hers & 1) == 0 ? hers : -1;
    }

    private void pull(int one, int end, int deed) {
      if (deed == CUTS) {
        sever(one);
      } else if (deed == GIVES && end != one && spare[end] > 0) {
        letOut(one, end);
      } else {
        come(end, end == one ? mother[one] : one);
      }
    }

    private void letOut(int one, int from) {
      spare[from]--;
      out[one]++;
    }

    private void sever(int one) {
      untie(one);
      if (cuts < MOST_CUTS) {
        cuts++;
      }
    }

    private void come(int end, int other) {
      if (cell[end] < cell[other]) {
        cell[end]++;
      } else {
        cell[end]--;
      }
      moved |= 1 << end;
    }
  }

  /** A TEXT, worked out ahead into parts of which each stands behind what it joins. */
  private static final class Law {
    /** Below NAME a part is a number, below SIGN a NAME by its place, from there on a sign. */
    static final int NAME = 10000;
    static final int SIGN = 20000;

    final int[] parts = new int[MOST_BYTES];
    int many;
    private final int use;
    private final int[] open = new int[MOST_BYTES + 1];

    Law(int use) {
      this.use = use;
    }

    void take(int[] others, int n) {
      for (int i = 0; i < n && i < MOST_BYTES && i < others.length; i++) {
        parts[i] = others[i];
      }
      many = n;
    }

    int gives(int a, int b, int c) {
      int top = 0;
      for (int i = 0; i < many && i < MOST_BYTES; i++) {
        int part = parts[i];
        if (part < NAME) {
          open[top] = part;
          top++;
        } else if (part < SIGN) {
          open[top] = part == NAME ? a : part == NAME + 1 ? b : c;
          top++;
        } else if (part == SIGN + '!') {
          if (top > 0) {
            open[top - 1] = open[top - 1] == 0 ? 1 : 0;
          }
        } else if (top > 1) {
          top--;
          open[top - 1] = joined(part - SIGN, open[top - 1], open[top]);
        }
      }
      int v = many > 0 ? open[0] : a;
      return use == 0 ? Math.floorMod(v, 4) : Math.max(0, Math.min(9, v));
    }

    private static int joined(int sign, int left, int right) {
      switch (sign) {
        case '|':
          return left != 0 || right != 0 ? 1 : 0;
        case '&':
          return left != 0 && right != 0 ? 1 : 0;
        case '<':
          return left < right ? 1 : 0;
        case '=':
          return left == right ? 1 : 0;
        case '>':
          return left > right ? 1 : 0;
        case '+':
          return left + right;
        case '-':
          return left - right;
        case '*':
          return left * right;
        case '/':
          return right == 0 ? 0 : left / right;
        default:
          return right == 0 ? 0 : left % right;
      }
    }
  }

  /** Reads THE TAPE from left to right, so that it stops at the very byte that is the FAULT. */
  private static final class Reader {
    private static final int MOST_OPEN = 5;
    private static final int MOST_DIGITS = 4;
    private static final int COMPARING = 3;
    private static final char[] NAMES = {'y', 's', 'd', 's', 'o', 'd'};

    final int[] parts = new int[MOST_BYTES];
    int many;
    private final int[] waiting = new int[MOST_BYTES];
    private int waits;
    private int open;
    private boolean valueIsDue;

    /** The FAULT, or -1: parts has the TEXT then. */
    int read(Row tape, int use) {
      many = 0;
      waits = 0;
      open = 0;
      valueIsDue = true;
      int at = 0;
      for (int turn = 0; turn < MOST_BYTES && at < tape.many; turn++) {
        int taken = valueIsDue ? readValue(tape, at, use) : readJoin(tape.numbers[at]);
        if (taken == 0) {
          return at;
        }
        at += taken;
      }
      if (valueIsDue) {
        return tape.many;
      }
      settle(1);
      return waits > 0 ? tape.many : -1;
    }

    /** How many bytes were taken: 0, if none goes on here. */
    private int readValue(Row tape, int at, int use) {
      int sign = tape.numbers[at];
      if (sign == '!' || sign == '(') {
        return openOne(sign);
      }
      int taken = digits(tape, at);
      if (taken > 0) {
        write(number(tape, at, taken));
      } else {
        int name = nameOf(sign, use);
        if (name < 0) {
          return 0;
        }
        write(Law.NAME + name);
        taken = 1;
      }
      endValue();
      return taken;
    }

    private int openOne(int sign) {
      if (open >= MOST_OPEN) {
        return 0;
      }
      open++;
      await(sign);
      return 1;
    }

    private static int digits(Row tape, int at) {
      int n = 0;
      for (int i = at; i < tape.many && n < MOST_DIGITS && isDigit(tape.numbers[i]); i++) {
        n++;
      }
      return n;
    }

    private static boolean isDigit(int sign) {
      return sign >= '0' && sign <= '9';
    }

    private static int number(Row tape, int at, int digits) {
      int v = 0;
      for (int i = at; i < at + digits && i < tape.many; i++) {
        v = v * 10 + tape.numbers[i] - '0';
      }
      return v;
    }

    private static int nameOf(int sign, int use) {
      for (int i = 0; i < 3; i++) {
        if (NAMES[use == 0 ? i : 3 + i] == sign) {
          return i;
        }
      }
      return -1;
    }

    /** Each ! that waits for this value is closed by its end. */
    private void endValue() {
      valueIsDue = false;
      for (int i = waits - 1; i >= 0 && waiting[i] == '!'; i--) {
        write(Law.SIGN + '!');
        waits--;
        open--;
      }
    }

    private int readJoin(int sign) {
      if (sign == ')') {
        return closeOne();
      }
      int rank = rank(sign);
      if (rank == 0) {
        return 0;
      }
      if (rank == COMPARING) {
        settle(COMPARING + 1);
        // One comparison does not go on with another.
        if (waits > 0 && rank(waiting[waits - 1]) == COMPARING) {
          return 0;
        }
      } else {
        settle(rank);
      }
      await(sign);
      valueIsDue = true;
      return 1;
    }

    private int closeOne() {
      settle(1);
      if (waits == 0) {
        return 0;
      }
      waits--;
      open--;
      endValue();
      return 1;
    }

    /** What binds as closely as that or closer, and waits, is written; a ( stays. */
    private void settle(int closeness) {
      for (int i = waits - 1; i >= 0 && rank(waiting[i]) >= closeness; i--) {
        write(Law.SIGN + waiting[i]);
        waits--;
      }
    }

    private static int rank(int sign) {
      switch (sign) {
        case '|':
          return 1;
        case '&':
          return 2;
        case '<':
        case '=':
        case '>':
          return COMPARING;
        case '+':
        case '-':
          return 4;
        case '*':
        case '/':
        case '%':
          return 5;
        default:
          return 0;
      }
    }

    private void await(int sign) {
      if (waits < MOST_BYTES) {
        waiting[waits] = sign;
        waits++;
      }
    }

    private void write(int part) {
      if (many < MOST_BYTES) {
        parts[many] = part;
        many++;
      }
    }
  }

  /** The VOICES: which BODY speaks for a KIND, and THE TRACE of those that began. */
  private static final class Voices {
    private static final int TIES = 0;
    private static final int LETS = 1;
    private static final int PULLS = 2;
    private static final int PARTS = 3;
    private static final int MOST_TRACED = 30;
    private static final int DEEPEST = 40;
    private static final int[] ABOVE = {-1, 0, 0, 0, 1, 2, 0};
    /** A row for each KIND, a place for each VOICE; 0 where the KIND has no BODY of its own. */
    private static final int[] BODIES = {
      10, 11, 12, 13,
      20, 0, 0, 21,
      0, 30, 0, 0,
      0, 0, 40, 0,
      50, 0, 51, 0,
      0, 60, 0, 0,
      70, 71, 0, 0,
    };

    final int[] trace = new int[MOST_TRACED];
    int many;
    boolean parted;
    private int kind;
    private int k;
    private int m;

    static boolean isUnder(int kind, int above) {
      int at = kind;
      for (int up = 0; up <= LAST_KIND && at >= 0; up++) {
        if (at == above) {
          return true;
        }
        at = ABOVE[at];
      }
      return false;
    }

    /** What began stays in THE TRACE even if the voice parts: that ERROR changes what is told there. */
    int begin(int kindOfOne, int number, int mOfOne, int voice, int x) {
      kind = kindOfOne;
      k = number;
      m = mOfOne;
      parted = false;
      many = 0;
      return speak(kind, voice, x, 0);
    }

    private int speak(int from, int voice, int x, int depth) {
      int body = bodyOf(from, voice);
      if (depth > DEEPEST || body == 0) {
        return 0;
      }
      if (many < MOST_TRACED) {
        trace[many] = body;
        many++;
      }
      return body < 20 ? speakMother(body, x, depth + 1) : speakOther(body, x, depth + 1);
    }

    private int speakMother(int body, int x, int depth) {
      switch (body) {
        case 10:
          return x + k;
        case 11:
          return speak(kind, TIES, x, depth) * 2;
        case 12:
          return speak(kind, LETS, x, depth) - m;
        default:
          if (m == k) {
            parted = true;
            return 0;
          }
          return x / (m - k);
      }
    }

    private int speakOther(int body, int x, int depth) {
      int above = ABOVE[body / 10 - 1];
      switch (body) {
        case 20:
          return speak(above, TIES, x, depth) - 4;
        case 21:
          int left = speak(above, PARTS, x, depth);
          return parted ? 0 : left + speak(kind, LETS, 1, depth);
        case 30:
          return 0 - speak(above, LETS, x, depth);
        case 40:
          return speak(above, PULLS, x / 2, depth);
        case 50:
          return speak(above, TIES, x, depth) * 3;
        case 51:
          return speak(above, PULLS, x, depth) ^ k;
        case 60:
          return speak(above, LETS, x + 1, depth);
        case 70:
          return 9;
        default:
          return speak(above, LETS, x, depth) + m;
      }
    }

    private static int bodyOf(int from, int voice) {
      int at = from;
      for (int up = 0; up <= LAST_KIND && at >= 0; up++) {
        int body = BODIES[4 * at + voice];
        if (body != 0) {
          return body;
        }
        at = ABOVE[at];
      }
      return 0;
    }
  }
}
