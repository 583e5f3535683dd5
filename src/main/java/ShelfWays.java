/** Shelves that order themselves. The words in capitals are those of the document. */
public final class ShelfWays {
  public static final int BAD = -1, STATE = -2, FULL = -3, NONE = -4;

  private static final int MOST_BOOKS = 6, BOOKS_AT_FIRST = 4, MOST_SHELVES = 4, MOST_WANTS = 16;
  private static final int MOST_ASKED = 99, MOST_COST = 99999, STEP_END = 10000;
  private static final int MOST_STEPS = 100, MOST_AHEAD = 200, MOST_BY_ODDS = 8, MOST_LOOK = 40;
  private static final int STAYING = 0, STEPPING = 1, FRONTING = 2, OFTEN = 3, MOST_KIND = 3;
  private static final int MOST_SEEN = 6, MOST_IMAGES = 2, MOST_SHEETS = 4, MOST_CELLS = 40;
  private static final int BYTES = 0, SHORTS = 1, INTS = 2;
  private static final int NULL_FAULT = 1, INDEX_FAULT = 2, CAST_FAULT = 3, SIZE_FAULT = 4;
  private static final int MOST_ON_TAPE = 160, MOST_BYTE = 127;
  private static final int NAME = 0, NUMBER = 1, SEMICOLON = 2, END = 3, WRONG = 4;
  private static final int NO_TOKEN = 1, NOT_THERE = 2, OUT_OF_BOUNDS = 3, TWICE = 4, TOO_MANY = 5;
  private static final int NO_SUCH_BOOK = 6;
  private static final int FAULT_BASE = -10, REFUSED_BASE = -20, TEN = 10;
  private static final int ROW_BASE = 10, ASKED_BASE = 20;
  private static final int NOTHING = -1, MOST_ROWS = 720, NO_LIMIT = 1000000000;
  private static final int LOOK_BITS = 4, LOOK_MASK = 15;

  private final House now = new House();
  /** What is tried out or told here is never what there is, until it is copied. */
  private final House trial = new House();
  private final House[] images = new House[MOST_IMAGES];
  private final boolean[] kept = new boolean[MOST_IMAGES];
  private final Tape tape = new Tape();
  private final Seen seen = new Seen();
  private final Sheet[] sheets = new Sheet[MOST_SHEETS];
  private final Least least = new Least();
  private final int[] rowTried = new int[MOST_BOOKS];
  private final int[] rowBest = new int[MOST_BOOKS];
  /** For each look (STEPS and SHELF) how many candidates show each BOOK, LOOK_BITS a BOOK. */
  private final int[] looks = new int[(MOST_LOOK + 1) * MOST_SHELVES];
  private int lastTorn = 0;

  public ShelfWays() {
    for (int k = 0; k < MOST_IMAGES; k++) {
      images[k] = new House();
    }
    for (int k = 0; k < MOST_SHEETS; k++) {
      sheets[k] = new Sheet();
    }
  }

  // ---- the text, what there is

  public int feed(int c) {
    if (!within(c, 0, MOST_BYTE)) {
      return BAD;
    }
    if (tape.length >= MOST_ON_TAPE) {
      return FULL;
    }
    tape.bytes[tape.length] = (byte) c;
    tape.length++;
    return tape.length;
  }

  public int end(int n) {
    if (!within(n, 0, tape.length)) {
      return BAD;
    }
    int had = tape.length;
    tape.length = n;
    return had;
  }

  public int text() {
    int lines = tape.tellTo(trial);
    tape.length = 0;
    if (tape.faultSort != 0) {
      return FAULT_BASE - tape.faultPlace;
    }
    now.copy(trial);
    seen.many = 0;
    for (int k = 0; k < MOST_IMAGES; k++) {
      kept[k] = false;
    }
    return lines;
  }

  public int fault() {
    return tape.faultSort;
  }

  public int rule(int what) {
    switch (what) {
      case 0: return now.bookCount;
      case 1: return now.shelfCount;
      case 2: return now.wantCount;
      case 3: return now.step;
      case 4: return now.turn(0);
      case 5: return leastCost();
      default: return BAD;
    }
  }

  private int leastCost() {
    least.reset(NO_LIMIT);
    for (int s = 0; s < now.shelfCount; s++) {
      least.offer(s, now.shelves[s].cost);
    }
    return least.name;
  }

  public int shelf(int s, int what) {
    if (!now.hasShelf(s)) {
      return BAD;
    }
    Shelf one = now.shelves[s];
    if (what == 0) {
      return one.kindNow;
    }
    if (what == 1) {
      return one.cost;
    }
    if (within(what, ROW_BASE, ROW_BASE + now.bookCount - 1)) {
      return one.row[what - ROW_BASE];
    }
    if (within(what, ASKED_BASE, ASKED_BASE + now.bookCount - 1)) {
      return one.asked[what - ASKED_BASE];
    }
    return BAD;
  }

  public int place(int s, int b) {
    return now.hasShelf(s) && now.hasBook(b) ? now.shelves[s].find(b) : BAD;
  }

  public int want(int i) {
    return now.hasWant(i) ? now.wants[i] : BAD;
  }

  // ---- what is changed

  public int alter(int s, int v) {
    if (!now.hasShelf(s) || !within(v, 0, MOST_KIND)) {
      return BAD;
    }
    int was = now.shelves[s].kindNow;
    now.shelves[s].kindNow = v;
    return was;
  }

  public int put(int kind) {
    if (!within(kind, 0, MOST_KIND)) {
      return BAD;
    }
    return now.addShelf(kind) ? now.shelfCount : FULL;
  }

  public int cut(int n) {
    if (!within(n, 0, now.shelfCount)) {
      return BAD;
    }
    int had = now.shelfCount;
    now.shelfCount = n;
    return had;
  }

  public int stand(int s, int b, int p) {
    if (!now.hasShelf(s) || !now.hasBook(b) || !now.hasBook(p)) {
      return BAD;
    }
    int was = now.shelves[s].find(b);
    now.shelves[s].shift(was, p);
    return was;
  }

  public int set(int i, int b) {
    if (!now.hasWant(i) || !now.hasBook(b)) {
      return BAD;
    }
    int was = now.wants[i];
    now.wants[i] = b;
    return was;
  }

  public int add(int b) {
    if (!now.hasBook(b)) {
      return BAD;
    }
    return now.addWant(b) ? now.wantCount : FULL;
  }

  public int drop(int n) {
    if (!within(n, 0, now.wantCount)) {
      return BAD;
    }
    int had = now.wantCount;
    now.wantCount = n;
    return had;
  }

  public int take(int b) {
    return now.hasBook(b) ? now.serveAll(b) : BAD;
  }

  // ---- steps

  public int steps(int n) {
    if (!within(n, 0, MOST_STEPS)) {
      return BAD;
    }
    if (now.step + n >= STEP_END) {
      return FULL;
    }
    int all = 0;
    for (int i = 0; i < n; i++) {
      all += now.stepOn();
    }
    return all;
  }

  public int runs(int n, int what) {
    if (!within(n, 0, MOST_AHEAD)) {
      return BAD;
    }
    trial.copy(now);
    switch (what) {
      case 0: return trial.paidByAll(n, NO_LIMIT);
      case 1: return cheapestIn(n);
      case 2: return trial.dearestPay(n);
      case 3: return trial.movesIn(n);
      default: return BAD;
    }
  }

  private int cheapestIn(int n) {
    least.reset(NO_LIMIT);
    for (int s = 0; s < trial.shelfCount; s++) {
      least.offer(s, trial.paidBy(s, n, NO_LIMIT));
    }
    return least.name;
  }

  public int paid(int s, int n) {
    if (!now.hasShelf(s) || !within(n, 0, MOST_AHEAD)) {
      return BAD;
    }
    trial.copy(now);
    return trial.paidBy(s, n, NO_LIMIT);
  }

  public int ahead(int s, int n, int p) {
    if (!now.hasShelf(s) || !within(n, 0, MOST_AHEAD) || !now.hasBook(p)) {
      return BAD;
    }
    trial.copy(now);
    trial.paidBy(s, n, NO_LIMIT);
    return trial.shelves[s].row[p];
  }

  public int when(int s, int b) {
    if (!now.hasShelf(s) || !now.hasBook(b)) {
      return BAD;
    }
    trial.copy(now);
    for (int n = 0; n <= MOST_AHEAD; n++) {
      if (trial.shelves[s].row[0] == b) {
        return n;
      }
      trial.serveTurn(s, n);
    }
    return NONE;
  }

  public int again() {
    trial.copy(now);
    for (int n = 1; n <= MOST_AHEAD; n++) {
      trial.stepOn();
      if (trial.turn(0) == now.turn(0) && trial.standsAs(now)) {
        return n;
      }
    }
    return NONE;
  }

  // ---- what is best

  public int order(int s, int what) {
    boolean isPlace = within(what, ROW_BASE, ROW_BASE + now.bookCount - 1);
    if (!now.hasShelf(s) || (what != 0 && !isPlace)) {
      return BAD;
    }
    int much = findBestRow(s);
    return isPlace ? rowBest[what - ROW_BASE] : much;
  }

  /** Rows are tried from the least on, so that of several the first one stays. */
  private int findBestRow(int s) {
    trial.copy(now);
    Shelf tried = trial.shelves[s];
    for (int p = 0; p < MOST_BOOKS; p++) {
      rowTried[p] = p;
    }
    int best = NO_LIMIT;
    boolean more = true;
    for (int i = 0; i < MOST_ROWS && more; i++) {
      tried.copy(now.shelves[s]);
      System.arraycopy(rowTried, 0, tried.row, 0, MOST_BOOKS);
      int much = trial.paidBy(s, now.wantCount, best);
      if (much < best) {
        best = much;
        System.arraycopy(rowTried, 0, rowBest, 0, MOST_BOOKS);
      }
      more = nextRow(rowTried, now.bookCount);
    }
    return best;
  }

  /** The next row by its numbers; false if the row was the last one. */
  private static boolean nextRow(int[] row, int length) {
    int turn = length - 2;
    while (turn >= 0 && row[turn] > row[turn + 1]) {
      turn--;
    }
    if (turn < 0) {
      return false;
    }
    int other = length - 1;
    while (other > turn + 1 && row[other] < row[turn]) {
      other--;
    }
    exchange(row, turn, other);
    for (int low = turn + 1, high = length - 1; low < high; low++, high--) {
      exchange(row, low, high);
    }
    return true;
  }

  private static void exchange(int[] row, int i, int j) {
    int held = row[i];
    row[i] = row[j];
    row[j] = held;
  }

  public int kind(int s, int n, int what) {
    if (!now.hasShelf(s) || !within(n, 0, MOST_AHEAD) || !within(what, 0, 1)) {
      return BAD;
    }
    trial.copy(now);
    least.reset(NO_LIMIT);
    for (int k = 0; k <= MOST_KIND; k++) {
      trial.shelves[s].copy(now.shelves[s]);
      trial.shelves[s].kindNow = k;
      least.offer(k, trial.paidBy(s, n, least.much));
    }
    return least.answer(what);
  }

  public int first(int s, int n, int what) {
    if (!now.hasShelf(s) || !within(n, 0, MOST_AHEAD) || !within(what, 0, 1)) {
      return BAD;
    }
    trial.copy(now);
    Shelf tried = trial.shelves[s];
    least.reset(NO_LIMIT);
    for (int b = 0; b < now.bookCount; b++) {
      tried.copy(now.shelves[s]);
      tried.shift(tried.find(b), 0);
      least.offer(b, trial.paidBy(s, n, least.much));
    }
    return least.answer(what);
  }

  public int swap(int n, int what) {
    if (!within(n, 0, MOST_AHEAD) || !within(what, 0, 1)) {
      return BAD;
    }
    resetToPaidNow(n);
    for (int i = 0; i < now.wantCount; i++) {
      for (int j = i + 1; j < now.wantCount; j++) {
        if (now.wants[i] != now.wants[j]) {
          trial.copy(now);
          exchange(trial.wants, i, j);
          least.offer(100 * i + j, trial.paidByAll(n, least.much));
        }
      }
    }
    return least.answer(what);
  }

  public int lose(int n, int what) {
    if (!within(n, 0, MOST_AHEAD) || !within(what, 0, 1)) {
      return BAD;
    }
    resetToPaidNow(n);
    for (int i = 0; i < now.wantCount; i++) {
      trial.copy(now);
      trial.wants[i] = NOTHING;
      least.offer(i, trial.paidByAll(n, least.much));
    }
    return least.answer(what);
  }

  /** Only what is less than as it is shall be found. */
  private void resetToPaidNow(int n) {
    trial.copy(now);
    least.reset(trial.paidByAll(n, NO_LIMIT));
  }

  // ---- wants that do not come

  public long luck(int v, int s, int b, int n, int what) {
    if (!areOdds(v, n, what) || !now.hasShelf(s) || !now.hasBook(b)) {
      return BAD;
    }
    trial.copy(now);
    long weights = 0;
    for (int missed = 0; missed < (1 << n); missed++) {
      long weight = weightOf(missed, v, n);
      if (weight > 0) {
        trial.shelves[s].copy(now.shelves[s]);
        trial.paidWithout(missed, s, n);
        weights += trial.shelves[s].row[0] == b ? weight : 0;
      }
    }
    return inLowestTerms(weights, power(TEN, n), what);
  }

  public long mean(int v, int n, int what) {
    if (!areOdds(v, n, what)) {
      return BAD;
    }
    trial.copy(now);
    long weighted = 0;
    for (int missed = 0; missed < (1 << n); missed++) {
      long weight = weightOf(missed, v, n);
      for (int s = 0; s < now.shelfCount && weight > 0; s++) {
        trial.shelves[s].copy(now.shelves[s]);
        weighted += weight * trial.paidWithout(missed, s, n);
      }
    }
    return inLowestTerms(weighted, power(TEN, n), what);
  }

  private static boolean areOdds(int v, int n, int what) {
    return within(v, 0, TEN) && within(n, 0, MOST_BY_ODDS) && within(what, 0, 1);
  }

  /** Out of 10 to the n-th: that of n STEPS just those in the bits are missed. */
  private static long weightOf(int missed, int v, int n) {
    int many = Integer.bitCount(missed);
    return power(v, many) * power(TEN - v, n - many);
  }

  private static long power(int base, int exponent) {
    long result = 1;
    for (int i = 0; i < exponent; i++) {
      result *= base;
    }
    return result;
  }

  private static long inLowestTerms(long above, long below, int what) {
    long divisor = below;
    long rest = above;
    for (int i = 0; i < 100 && rest != 0; i++) {
      long next = divisor % rest;
      divisor = rest;
      rest = next;
    }
    if (divisor == 0) {
      return BAD;
    }
    return what == 0 ? above / divisor : below / divisor;
  }

  // ---- what stood first

  public int see(int n, int s, int b) {
    if (!within(n, 0, MOST_LOOK) || !now.hasShelf(s) || !now.hasBook(b)) {
      return BAD;
    }
    return seen.note(n, s, b) ? seen.many : FULL;
  }

  public int forget(int n) {
    if (!within(n, 0, seen.many)) {
      return BAD;
    }
    int had = seen.many;
    seen.many = n;
    return had;
  }

  public int kinds(int s) {
    if (!now.hasShelf(s)) {
      return BAD;
    }
    int bits = 0;
    for (int k = 0; k <= MOST_KIND; k++) {
      trial.copy(now);
      trial.shelves[s].kindNow = k;
      bits |= seen.isSoIn(trial) ? 1 << k : 0;
    }
    return bits;
  }

  public int books(int i) {
    return now.hasWant(i) ? candidates(i) : BAD;
  }

  private int candidates(int i) {
    int bits = 0;
    for (int b = 0; b < now.bookCount; b++) {
      trial.copy(now);
      trial.wants[i] = b;
      bits |= seen.isSoIn(trial) ? 1 << b : 0;
    }
    return bits;
  }

  public int ask(int i, int what) {
    if (!now.hasWant(i) || !within(what, 0, 1)) {
      return BAD;
    }
    int bits = candidates(i);
    countLooks(i, bits);
    least.reset(Integer.bitCount(bits));
    for (int n = 0; n <= MOST_LOOK; n++) {
      for (int s = 0; s < now.shelfCount; s++) {
        least.offer(TEN * n + s, mostShowingOne(looks[n * MOST_SHELVES + s]));
      }
    }
    return least.answer(what);
  }

  private void countLooks(int i, int bits) {
    for (int k = 0; k < looks.length; k++) {
      looks[k] = 0;
    }
    for (int b = 0; b < now.bookCount; b++) {
      if (((bits >> b) & 1) == 1) {
        trial.copy(now);
        trial.wants[i] = b;
        countLooksOfTrial();
      }
    }
  }

  private void countLooksOfTrial() {
    for (int n = 0; n <= MOST_LOOK; n++) {
      for (int s = 0; s < trial.shelfCount; s++) {
        looks[n * MOST_SHELVES + s] += 1 << (LOOK_BITS * trial.shelves[s].row[0]);
      }
      trial.stepOn();
    }
  }

  private static int mostShowingOne(int counts) {
    int most = 0;
    for (int b = 0; b < MOST_BOOKS; b++) {
      most = Math.max(most, (counts >> (LOOK_BITS * b)) & LOOK_MASK);
    }
    return most;
  }

  // ---- by a seed

  public int drift(int seed, int n, int what) {
    if (!within(n, 1, MOST_AHEAD) || !within(what, 0, 1)) {
      return BAD;
    }
    if (now.shelfCount == 0) {
      return STATE;
    }
    trial.copy(now);
    least.reset(NO_LIMIT);
    int all = 0;
    for (int s = 0; s < trial.shelfCount; s++) {
      int much = paidBySeed(trial.shelves[s], seed, n);
      least.offer(s, much);
      all += much;
    }
    return what == 0 ? all : least.name;
  }

  private int paidBySeed(Shelf one, int seed, int n) {
    int grown = seed;
    int much = 0;
    for (int i = 0; i < n; i++) {
      grown = grown * 1103515245 + 12345;
      int got = (grown >>> 16) & 32767;
      much += one.serve(got % Math.max(1, now.bookCount));
    }
    return much;
  }

  // ---- images, sheets

  public int keep(int k) {
    if (!within(k, 0, MOST_IMAGES - 1)) {
      return BAD;
    }
    int was = kept[k] ? 1 : 0;
    images[k].copy(now);
    kept[k] = true;
    return was;
  }

  public int back(int k) {
    if (!within(k, 0, MOST_IMAGES - 1)) {
      return BAD;
    }
    if (!kept[k]) {
      return STATE;
    }
    now.copy(images[k]);
    return now.step;
  }

  public int sheet(int k, int lane, int n) {
    if (!within(k, 0, MOST_SHEETS - 1) || !within(lane, BYTES, INTS) || n > MOST_CELLS) {
      return BAD;
    }
    if (n < 0) {
      return FAULT_BASE - SIZE_FAULT;
    }
    sheets[k].begin(lane, n);
    return 1;
  }

  public int lay(int k, int i, int v) {
    if (!within(k, 0, MOST_SHEETS - 1)) {
      return BAD;
    }
    int found = sheets[k].faultOf(sheets[k].laneNow, i);
    if (found != 0) {
      return FAULT_BASE - found;
    }
    sheets[k].write(i, v);
    return 1;
  }

  public int read(int k, int lane, int f, int n) {
    if (!within(k, 0, MOST_SHEETS - 1) || !within(lane, BYTES, INTS) || !within(n, 0, MOST_CELLS)) {
      return BAD;
    }
    Sheet one = sheets[k];
    int had = now.wantCount;
    int found = 0;
    int came = 0;
    while (came < n && found == 0) {
      found = one.faultOf(lane, f + came);
      if (found == 0) {
        if (add(one.cells[f + came]) < 0) {
          now.wantCount = had;
          return REFUSED_BASE - came;
        }
        came++;
      }
    }
    lastTorn = found;
    return came;
  }

  public int torn() {
    return lastTorn;
  }

  public int count(int what) {
    switch (what) {
      case 0: return seen.many;
      case 1: return imagesKept();
      case 2: return tape.length;
      case 3: return sheets[0].laneNow == NOTHING ? NONE : sheets[0].length;
      case 4: return now.costOfAll();
      case 5: return now.wantsSummed();
      default: return BAD;
    }
  }

  private int imagesKept() {
    int many = 0;
    for (int k = 0; k < MOST_IMAGES; k++) {
      many += kept[k] ? 1 : 0;
    }
    return many;
  }

  private static boolean within(int number, int low, int high) {
    return number >= low && number <= high;
  }

  /**
   * A SHELF. Its row has all the BOOKS that there could be: those that there are not stand
   * behind the others and are never ASKED for, so that no SHELF needs to know how many there are.
   */
  private static final class Shelf {
    int kindNow;
    int cost;
    final int[] row = new int[MOST_BOOKS];
    final int[] asked = new int[MOST_BOOKS];

    Shelf() {
      begin(STAYING);
    }

    void begin(int itsKind) {
      kindNow = itsKind;
      cost = 0;
      for (int p = 0; p < MOST_BOOKS; p++) {
        row[p] = p;
        asked[p] = 0;
      }
    }

    void copy(Shelf other) {
      kindNow = other.kindNow;
      cost = other.cost;
      System.arraycopy(other.row, 0, row, 0, MOST_BOOKS);
      System.arraycopy(other.asked, 0, asked, 0, MOST_BOOKS);
    }

    int find(int book) {
      int p = 0;
      while (p < MOST_BOOKS - 1 && row[p] != book) {
        p++;
      }
      return p;
    }

    /** Answers what the SHELF PAYS. */
    int serve(int book) {
      int from = find(book);
      int pay = payFor(from);
      cost = Math.min(MOST_COST, cost + pay);
      asked[book] = Math.min(MOST_ASKED, asked[book] + 1);
      shift(from, goalOf(book, from));
      return pay;
    }

    private int payFor(int from) {
      return kindNow == FRONTING && from != 0 ? from + 2 : from + 1;
    }

    private int goalOf(int book, int from) {
      if (kindNow == STEPPING) {
        return from > 0 ? from - 1 : 0;
      }
      int p = kindNow == STAYING ? from : 0;
      while (kindNow == OFTEN && p < from && asked[row[p]] >= asked[book]) {
        p++;
      }
      return p;
    }

    void shift(int from, int to) {
      int book = row[from];
      for (int p = from; p > to; p--) {
        row[p] = row[p - 1];
      }
      for (int p = from; p < to; p++) {
        row[p] = row[p + 1];
      }
      row[to] = book;
    }

    boolean standsAs(Shelf other) {
      for (int p = 0; p < MOST_BOOKS; p++) {
        if (row[p] != other.row[p]) {
          return false;
        }
      }
      return true;
    }
  }

  /** BOOKS, SHELVES, WANTS and STEP: what there is, an IMAGE of it, or what is tried out. */
  private static final class House {
    int bookCount;
    int shelfCount;
    int wantCount;
    int step;
    final Shelf[] shelves = new Shelf[MOST_SHELVES];
    final int[] wants = new int[MOST_WANTS];

    House() {
      for (int s = 0; s < MOST_SHELVES; s++) {
        shelves[s] = new Shelf();
      }
      empty();
    }

    void empty() {
      bookCount = BOOKS_AT_FIRST;
      shelfCount = 0;
      wantCount = 0;
      step = 0;
    }

    void copy(House other) {
      bookCount = other.bookCount;
      shelfCount = other.shelfCount;
      wantCount = other.wantCount;
      step = other.step;
      for (int s = 0; s < shelfCount; s++) {
        shelves[s].copy(other.shelves[s]);
      }
      System.arraycopy(other.wants, 0, wants, 0, MOST_WANTS);
    }

    boolean hasShelf(int s) {
      return s >= 0 && s < shelfCount;
    }

    /** PLACES are as many as BOOKS: it holds for a PLACE too. */
    boolean hasBook(int b) {
      return b >= 0 && b < bookCount;
    }

    boolean hasWant(int i) {
      return i >= 0 && i < wantCount;
    }

    boolean addShelf(int itsKind) {
      if (shelfCount >= MOST_SHELVES) {
        return false;
      }
      shelves[shelfCount].begin(itsKind);
      shelfCount++;
      return true;
    }

    boolean addWant(int book) {
      if (wantCount >= MOST_WANTS) {
        return false;
      }
      wants[wantCount] = book;
      wantCount++;
      return true;
    }

    boolean wantsNoSuchBook() {
      for (int i = 0; i < wantCount; i++) {
        if (!hasBook(wants[i])) {
          return true;
        }
      }
      return false;
    }

    /** Which WANT it will be so many STEPS from now on; NONE if there are no WANTS. */
    int turn(int stepsOn) {
      return wantCount > 0 ? (step + stepsOn) % wantCount : NONE;
    }

    int serveAll(int book) {
      int all = 0;
      for (int s = 0; s < shelfCount; s++) {
        all += shelves[s].serve(book);
      }
      return all;
    }

    /** A STEP; answers what is PAID by all. */
    int stepOn() {
      int i = turn(0);
      step++;
      return i < 0 || wants[i] < 0 ? 0 : serveAll(wants[i]);
    }

    /** At one SHELF alone the WANT of the STEP so many from now on is ASKED for. */
    int serveTurn(int s, int stepsOn) {
      int i = turn(stepsOn);
      return i < 0 || wants[i] < 0 ? 0 : shelves[s].serve(wants[i]);
    }

    /** SHELVES do not touch one another, so one is run alone; no further than to the limit. */
    int paidBy(int s, int n, int limit) {
      int much = 0;
      for (int i = 0; i < n && much < limit; i++) {
        much += serveTurn(s, i);
      }
      return much;
    }

    int paidByAll(int n, int limit) {
      int all = 0;
      for (int s = 0; s < shelfCount && all < limit; s++) {
        all += paidBy(s, n, limit - all);
      }
      return all;
    }

    int paidWithout(int missed, int s, int n) {
      int much = 0;
      for (int i = 0; i < n; i++) {
        if (((missed >> i) & 1) == 0) {
          much += serveTurn(s, i);
        }
      }
      return much;
    }

    int dearestPay(int n) {
      int most = 0;
      for (int s = 0; s < shelfCount; s++) {
        for (int i = 0; i < n; i++) {
          most = Math.max(most, serveTurn(s, i));
        }
      }
      return most;
    }

    int movesIn(int n) {
      int many = 0;
      for (int s = 0; s < shelfCount; s++) {
        for (int i = 0; i < n && wantCount > 0; i++) {
          int book = wants[turn(i)];
          int from = shelves[s].find(book);
          shelves[s].serve(book);
          many += shelves[s].find(book) == from ? 0 : 1;
        }
      }
      return many;
    }

    boolean standsAs(House other) {
      for (int s = 0; s < shelfCount; s++) {
        if (!shelves[s].standsAs(other.shelves[s])) {
          return false;
        }
      }
      return true;
    }

    int costOfAll() {
      int all = 0;
      for (int s = 0; s < shelfCount; s++) {
        all += shelves[s].cost;
      }
      return all;
    }

    int wantsSummed() {
      int all = 0;
      for (int i = 0; i < wantCount; i++) {
        all += wants[i];
      }
      return all;
    }
  }

  /** The least of what is offered, of several the first. */
  private static final class Least {
    int name;
    int much;

    /** Only what is below the limit is taken. */
    void reset(int limit) {
      name = NONE;
      much = limit;
    }

    void offer(int itsName, int itsMuch) {
      if (itsMuch < much) {
        name = itsName;
        much = itsMuch;
      }
    }

    int answer(int what) {
      return name == NONE || what == 0 ? name : much;
    }
  }

  /** What is SEEN, always as from now on. */
  private static final class Seen {
    int many;
    final int[] behind = new int[MOST_SEEN];
    final int[] onShelf = new int[MOST_SEEN];
    final int[] book = new int[MOST_SEEN];

    boolean note(int n, int s, int b) {
      if (many >= MOST_SEEN) {
        return false;
      }
      behind[many] = n;
      onShelf[many] = s;
      book[many] = b;
      many++;
      return true;
    }

    /** Runs the house on. */
    boolean isSoIn(House house) {
      int last = latest();
      for (int n = 0; n <= last; n++) {
        if (!isSoBehind(n, house)) {
          return false;
        }
        house.stepOn();
      }
      return true;
    }

    private int latest() {
      int last = 0;
      for (int k = 0; k < many; k++) {
        last = Math.max(last, behind[k]);
      }
      return last;
    }

    private boolean isSoBehind(int n, House house) {
      for (int k = 0; k < many; k++) {
        if (behind[k] == n) {
          int s = onShelf[k];
          if (!house.hasShelf(s) || house.shelves[s].row[0] != book[k]) {
            return false;
          }
        }
      }
      return true;
    }
  }

  /** THE TAPE, and how it is read. */
  private static final class Tape {
    final byte[] bytes = new byte[MOST_ON_TAPE];
    int length;
    int faultSort;
    int faultPlace;
    private int cursor;
    private int tokenPlace;
    private int tokenSort;
    private int number;
    private boolean booksTold;

    /** Answers how many lines there are; if there is a fault, what was told is not to be used. */
    int tellTo(House house) {
      house.empty();
      cursor = 0;
      faultSort = 0;
      faultPlace = 0;
      booksTold = false;
      int lines = 0;
      while (lines <= length && takeLine(house)) {
        lines++;
      }
      // The token read last was the end, so a fault found now stands at the length.
      if (house.wantsNoSuchBook()) {
        refuse(NO_SUCH_BOOK);
      }
      return lines;
    }

    /** False if there is no line more, or a fault. */
    private boolean takeLine(House house) {
      scan();
      if (tokenSort == END) {
        return false;
      }
      if (tokenSort != NAME) {
        return refuse(NOT_THERE);
      }
      if (isNamed("books")) {
        return takeBooks(house);
      }
      if (isNamed("want")) {
        return takeWants(house);
      }
      int itsKind = kindNamed();
      return itsKind == NOTHING ? refuse(NOT_THERE) : takeShelf(house, itsKind);
    }

    private boolean takeShelf(House house, int itsKind) {
      if (!house.addShelf(itsKind)) {
        return refuse(TOO_MANY);
      }
      return takeSemicolon();
    }

    private boolean takeBooks(House house) {
      if (booksTold) {
        return refuse(TWICE);
      }
      booksTold = true;
      scan();
      if (tokenSort != NUMBER) {
        return refuse(NOT_THERE);
      }
      if (number < 1 || number > MOST_BOOKS) {
        return refuse(OUT_OF_BOUNDS);
      }
      house.bookCount = number;
      return takeSemicolon();
    }

    private boolean takeWants(House house) {
      for (int i = 0; i <= MOST_WANTS; i++) {
        scan();
        if (tokenSort == SEMICOLON) {
          return true;
        }
        if (tokenSort != NUMBER) {
          return refuse(NOT_THERE);
        }
        if (house.wantCount >= MOST_WANTS) {
          return refuse(TOO_MANY);
        }
        if (number >= MOST_BOOKS) {
          return refuse(OUT_OF_BOUNDS);
        }
        house.addWant(number);
      }
      return false;
    }

    private boolean takeSemicolon() {
      scan();
      return tokenSort == SEMICOLON || refuse(NOT_THERE);
    }

    /** A fault at the token read last; the first one stays. */
    private boolean refuse(int sort) {
      if (faultSort == 0) {
        faultSort = sort;
        faultPlace = tokenPlace;
      }
      return false;
    }

    private int kindNamed() {
      if (isNamed("stay")) {
        return STAYING;
      }
      if (isNamed("step")) {
        return STEPPING;
      }
      if (isNamed("front")) {
        return FRONTING;
      }
      return isNamed("often") ? OFTEN : NOTHING;
    }

    private boolean isNamed(String name) {
      if (cursor - tokenPlace != name.length()) {
        return false;
      }
      for (int i = 0; i < name.length(); i++) {
        if (bytes[tokenPlace + i] != name.charAt(i)) {
          return false;
        }
      }
      return true;
    }

    /** Reads the next token; one that is none is refused here. */
    private void scan() {
      while (cursor < length && bytes[cursor] == ' ') {
        cursor++;
      }
      tokenPlace = cursor;
      if (cursor >= length) {
        tokenSort = END;
      } else if (bytes[cursor] == ';') {
        cursor++;
        tokenSort = SEMICOLON;
      } else if (isLetter(bytes[cursor])) {
        scanName();
      } else if (isFigure(bytes[cursor])) {
        scanNumber();
      } else {
        tokenSort = WRONG;
        refuse(NO_TOKEN);
      }
    }

    private void scanName() {
      tokenSort = NAME;
      while (cursor < length && isLetter(bytes[cursor])) {
        cursor++;
      }
    }

    private void scanNumber() {
      tokenSort = NUMBER;
      number = 0;
      while (cursor < length && isFigure(bytes[cursor])) {
        number = number * 10 + bytes[cursor] - '0';
        cursor++;
      }
      if (cursor - tokenPlace > 2) {
        tokenSort = WRONG;
        refuse(NO_TOKEN);
      }
    }

    private static boolean isLetter(int c) {
      return c >= 'a' && c <= 'z';
    }

    private static boolean isFigure(int c) {
      return c >= '0' && c <= '9';
    }
  }

  /** A SHEET; its lane tells whether there is a row at all. */
  private static final class Sheet {
    int laneNow = NOTHING;
    int length;
    final int[] cells = new int[MOST_CELLS];

    void begin(int lane, int n) {
      laneNow = lane;
      length = n;
      for (int i = 0; i < MOST_CELLS; i++) {
        cells[i] = 0;
      }
    }

    /** The FAULT of CELL i in a row taken as of a lane; 0. */
    int faultOf(int lane, int i) {
      if (laneNow == NOTHING) {
        return NULL_FAULT;
      }
      if (laneNow != lane) {
        return CAST_FAULT;
      }
      return i >= 0 && i < length ? 0 : INDEX_FAULT;
    }

    void write(int i, int v) {
      switch (laneNow) {
        case BYTES:
          cells[i] = (byte) v;
          break;
        case SHORTS:
          cells[i] = (short) v;
          break;
        default:
          cells[i] = v;
          break;
      }
    }
  }
}
