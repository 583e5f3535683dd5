import java.util.ArrayList;
import java.util.List;

/**
 * Every number that a call takes, at the ends of its bounds and just outside them, in an object that
 * has nothing, in an ordinary one and in one that has the most of all.
 */
public final class BoundsTest {
  private static final int[] ANY = null;
  private static final int[] YES_OR_NO = {0, 1};

  /** What there is: a text that tells it, rows that make the rest, and how many there are of each. */
  private record State(String name, String text, String[] rows, int books, int shelves, int wants, int seen, int tape) {}

  /** A call, and from where to where each of its numbers goes (ANY: it is never BAD). */
  private record Bounds(int promise, String call, int[]... ends) {}

  public static void main(String[] args) {
    State[] states = {
      new State("nothing", "", new String[0], 4, 0, 0, 0, 0),
      new State("one of each", "books 1;front;want 0;", new String[] {"see(0, 0, 0) 1", "feed(32) 1"}, 1, 1, 1, 1, 1),
      new State("ordinary", "books 5;front;often;step;want 4 1 3 1;",
          new String[] {"see(1, 0, 4) 1", "see(2, 1, 1) 2", "feed(59) 1", "feed(59) 2", "feed(59) 3"}, 5, 3, 4, 2, 3),
      new State("the most of all", "books 6;stay;step;front;often;want 5 4 3 2 1 0 5 4 3 2 1 0 5 4 3 2;",
          new String[] {"see(40, 3, 5) 1", "see(40, 3, 5) 2", "see(40, 3, 5) 3", "see(40, 3, 5) 4",
              "see(40, 3, 5) 5", "see(40, 3, 5) 6"}, 6, 4, 16, 6, 160),
    };
    for (State state : states) {
      for (Bounds bounds : table(state)) {
        inside(state, bounds);
        outside(state, bounds);
        twoOutside(state, bounds);
      }
      whats(state);
    }
    Due.end();
  }

  private static int[] to(int low, int high) {
    return new int[] {low, high};
  }

  private static List<Bounds> table(State state) {
    int[] shelf = to(0, state.shelves - 1);
    int[] book = to(0, state.books - 1);
    int[] want = to(0, state.wants - 1);
    int[] kind = to(0, 3);
    int[] ahead = to(0, 200);
    int[] sheet = to(0, 3);
    int[] lane = to(0, 2);
    List<Bounds> all = new ArrayList<>();
    all.add(new Bounds(2, "feed", to(0, 127)));
    all.add(new Bounds(3, "end", to(0, state.tape)));
    all.add(new Bounds(6, "rule", to(0, 5)));
    all.add(new Bounds(7, "shelf", shelf, YES_OR_NO));
    all.add(new Bounds(8, "place", shelf, book));
    all.add(new Bounds(9, "want", want));
    all.add(new Bounds(10, "alter", shelf, kind));
    all.add(new Bounds(11, "put", kind));
    all.add(new Bounds(12, "cut", to(0, state.shelves)));
    all.add(new Bounds(13, "stand", shelf, book, book));
    all.add(new Bounds(14, "set", want, book));
    all.add(new Bounds(15, "add", book));
    all.add(new Bounds(16, "drop", to(0, state.wants)));
    all.add(new Bounds(17, "take", book));
    all.add(new Bounds(18, "steps", to(0, 100)));
    all.add(new Bounds(19, "runs", ahead, kind));
    all.add(new Bounds(20, "paid", shelf, ahead));
    all.add(new Bounds(21, "ahead", shelf, ahead, book));
    all.add(new Bounds(22, "when", shelf, book));
    all.add(new Bounds(25, "kind", shelf, ahead, YES_OR_NO));
    all.add(new Bounds(26, "first", shelf, ahead, YES_OR_NO));
    all.add(new Bounds(27, "swap", ahead, YES_OR_NO));
    all.add(new Bounds(28, "lose", ahead, YES_OR_NO));
    all.add(new Bounds(29, "luck", to(0, 10), shelf, book, to(0, 8), YES_OR_NO));
    all.add(new Bounds(30, "mean", to(0, 10), to(0, 8), YES_OR_NO));
    all.add(new Bounds(31, "see", to(0, 40), shelf, book));
    all.add(new Bounds(32, "forget", to(0, state.seen)));
    all.add(new Bounds(33, "kinds", shelf));
    all.add(new Bounds(34, "books", want));
    all.add(new Bounds(35, "ask", want, YES_OR_NO));
    all.add(new Bounds(36, "drift", ANY, to(1, 200), YES_OR_NO));
    all.add(new Bounds(37, "keep", YES_OR_NO));
    all.add(new Bounds(38, "back", YES_OR_NO));
    all.add(new Bounds(39, "sheet", sheet, lane, to(0, 40)));
    all.add(new Bounds(40, "lay", sheet, ANY, ANY));
    all.add(new Bounds(41, "read", sheet, lane, ANY, to(0, 40)));
    all.add(new Bounds(43, "count", to(0, 5)));
    return all;
  }

  private static Run begin(State state, Bounds bounds) {
    Run run = Run.of(bounds.promise, state.name);
    if (!state.text.isEmpty()) {
      run.told(state.text);
    }
    run.rows(state.rows);
    return state.tape == 160 ? run.fed(" ".repeat(160)) : run;
  }

  private static String call(Bounds bounds, int[] numbers) {
    StringBuilder call = new StringBuilder(bounds.call).append('(');
    for (int i = 0; i < numbers.length; i++) {
      call.append(i == 0 ? "" : ", ").append(numbers[i]);
    }
    return call.append(')').toString();
  }

  private static boolean isEmpty(int[] ends) {
    return ends != ANY && ends[1] < ends[0];
  }

  private static boolean hasEmpty(Bounds bounds) {
    for (int[] ends : bounds.ends) {
      if (isEmpty(ends)) {
        return true;
      }
    }
    return false;
  }

  /** The lowest number of each, or 0. */
  private static int[] lowest(Bounds bounds) {
    int[] numbers = new int[bounds.ends.length];
    for (int i = 0; i < numbers.length; i++) {
      numbers[i] = bounds.ends[i] == ANY ? 0 : bounds.ends[i][0];
    }
    return numbers;
  }

  /** Each number at both of its ends, the others lowest and then highest. */
  private static void inside(State state, Bounds bounds) {
    if (hasEmpty(bounds)) {
      begin(state, bounds).rows(call(bounds, lowest(bounds)) + " BAD").end();
      return;
    }
    int[] numbers = lowest(bounds);
    begin(state, bounds).notBad(call(bounds, numbers)).end();
    for (int i = 0; i < numbers.length; i++) {
      int[] one = lowest(bounds);
      one[i] = bounds.ends[i] == ANY ? Integer.MAX_VALUE : bounds.ends[i][1];
      begin(state, bounds).notBad(call(bounds, one)).end();
      numbers[i] = bounds.ends[i] == ANY ? Integer.MIN_VALUE : bounds.ends[i][1];
    }
    begin(state, bounds).notBad(call(bounds, numbers)).end();
  }

  private static int[] wrong(int[] ends) {
    return new int[] {ends[0] - 1, ends[1] + 1, Integer.MIN_VALUE, Integer.MAX_VALUE, -256, 256};
  }

  private static void outside(State state, Bounds bounds) {
    for (int i = 0; i < bounds.ends.length; i++) {
      if (bounds.ends[i] == ANY) {
        continue;
      }
      Run run = begin(state, bounds);
      for (int number : wrong(bounds.ends[i])) {
        int[] numbers = lowest(bounds);
        numbers[i] = number;
        run.rows(call(bounds, numbers) + " " + due(bounds, numbers));
      }
      run.end();
    }
  }

  /** A SHEET of a length below 0 is a FAULT of the machine, unless another number is BAD. */
  private static String due(Bounds bounds, int[] numbers) {
    boolean isSize = bounds.call.equals("sheet") && numbers[2] < 0;
    return isSize && numbers[0] >= 0 && numbers[0] <= 3 && numbers[1] >= 0 && numbers[1] <= 2 ? "-14" : "BAD";
  }

  private static void twoOutside(State state, Bounds bounds) {
    for (int i = 0; i < bounds.ends.length; i++) {
      for (int j = i + 1; j < bounds.ends.length; j++) {
        if (bounds.ends[i] != ANY && bounds.ends[j] != ANY) {
          int[] numbers = lowest(bounds);
          numbers[i] = bounds.ends[i][1] + 1;
          numbers[j] = bounds.ends[j][0] - 1;
          Run run = begin(state, bounds).rows(call(bounds, numbers) + " BAD");
          numbers[i] = Integer.MIN_VALUE;
          numbers[j] = Integer.MAX_VALUE;
          run.rows(call(bounds, numbers) + " BAD").end();
        }
      }
    }
  }

  /** shelf() and order() take numbers with gaps between them. */
  private static void whats(State state) {
    Bounds shelf = new Bounds(7, "shelf");
    Bounds order = new Bounds(24, "order");
    int[] wild = {Integer.MIN_VALUE, -11, -10, 100, 266, Integer.MAX_VALUE};
    for (int what = -3; what < 33; what++) {
      what(state, shelf, what);
      what(state, order, what);
    }
    for (int what : wild) {
      what(state, shelf, what);
      what(state, order, what);
    }
    for (int s : new int[] {-1, state.shelves, Integer.MIN_VALUE, Integer.MAX_VALUE}) {
      begin(state, shelf).rows("shelf(" + s + ", 0) BAD", "shelf(" + s + ", 10) BAD", "shelf(" + s + ", 20) BAD").end();
      begin(state, order).rows("order(" + s + ", 0) BAD", "order(" + s + ", 10) BAD").end();
    }
  }

  private static void what(State state, Bounds bounds, int what) {
    boolean isPlace = what >= 10 && what < 10 + state.books;
    boolean isAsked = what >= 20 && what < 20 + state.books;
    boolean isShelf = bounds.call.equals("shelf");
    boolean isTold = what == 0 || isPlace || isShelf && (what == 1 || isAsked);
    for (int s = 0; s < Math.max(1, state.shelves); s++) {
      String call = bounds.call + "(" + s + ", " + what + ")";
      if (isTold && state.shelves > 0) {
        begin(state, bounds).notBad(call).end();
      } else {
        begin(state, bounds).rows(call + " BAD").end();
      }
    }
  }
}
