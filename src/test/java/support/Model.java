import java.math.BigInteger;
import java.util.ArrayList;
import java.util.Arrays;
import java.util.HashMap;
import java.util.List;
import java.util.Map;
import java.util.TreeMap;

/**
 * The document once more, written as plainly as can be and in another way than the class: all is
 * copied for each thing tried, all SHELVES run together, the machine itself finds the faults.
 */
final class Model {
  static final class Shelf {
    int kind;
    int cost;
    /** What was PAID in all, not cut. */
    int spent;
    List<Integer> row = new ArrayList<>();
    Map<Integer, Integer> asked = new HashMap<>();

    Shelf(int kind, int books) {
      this.kind = kind;
      for (int b = 0; b < books; b++) {
        row.add(b);
        asked.put(b, 0);
      }
    }

    Shelf(Shelf o) {
      kind = o.kind;
      cost = o.cost;
      spent = o.spent;
      row = new ArrayList<>(o.row);
      asked = new HashMap<>(o.asked);
    }

    void move(int b, int p) {
      row.remove((Object) b);
      row.add(p, b);
    }

    /** Answers {what is paid, 1 if the BOOK came to another PLACE}. */
    int[] ask(int b) {
      int p = row.indexOf(b);
      int pays = p + 1 + (kind == 2 && p > 0 ? 1 : 0);
      cost = Math.min(99999, cost + pays);
      spent += pays;
      asked.put(b, Math.min(99, asked.get(b) + 1));
      int to = p;
      if (kind == 1 && p > 0) {
        to = p - 1;
      } else if (kind == 2) {
        to = 0;
      } else if (kind == 3) {
        for (int q = p - 1; q >= 0; q--) {
          to = asked.get(row.get(q)) < asked.get(b) ? q : to;
        }
      }
      move(b, to);
      return new int[] {pays, to == p ? 0 : 1};
    }
  }

  static final class World {
    int books = 4;
    List<Shelf> shelves = new ArrayList<>();
    List<Integer> wants = new ArrayList<>();
    int step = 0;
    int most = 0;
    int moves = 0;

    World() {}

    World(World o) {
      books = o.books;
      for (Shelf s : o.shelves) {
        shelves.add(new Shelf(s));
      }
      wants = new ArrayList<>(o.wants);
      step = o.step;
    }

    int ask(int b) {
      int sum = 0;
      for (Shelf s : shelves) {
        int[] answer = s.ask(b);
        sum += answer[0];
        most = Math.max(most, answer[0]);
        moves += answer[1];
      }
      return sum;
    }

    int step(boolean comes) {
      int sum = 0;
      if (!wants.isEmpty() && comes && wants.get(step % wants.size()) >= 0) {
        sum = ask(wants.get(step % wants.size()));
      }
      step++;
      return sum;
    }

    int run(int n) {
      int sum = 0;
      for (int i = 0; i < n; i++) {
        sum += step(true);
      }
      return sum;
    }
  }

  World w = new World();
  StringBuilder tape = new StringBuilder();
  int fault = 0;
  int torn = 0;
  List<int[]> seen = new ArrayList<>();
  World[] images = new World[2];
  Object[] sheets = new Object[4];

  private boolean isShelf(int s) {
    return s >= 0 && s < w.shelves.size();
  }

  private boolean isBook(int b) {
    return b >= 0 && b < w.books;
  }

  private boolean isWant(int i) {
    return i >= 0 && i < w.wants.size();
  }

  private static boolean is(int n, int low, int high) {
    return low <= n && n <= high;
  }

  /** One call by its name; all arguments in a row. */
  long call(String name, int[] a) {
    switch (name) {
      case "feed": case "end": case "text": case "fault": return tapeCall(name, a);
      case "rule": case "shelf": case "place": case "want": case "count": return look(name, a);
      case "alter": case "put": case "cut": case "stand": return shelfChange(name, a);
      case "set": case "add": case "drop": case "take": case "steps": return wantChange(name, a);
      case "runs": case "paid": case "ahead": case "when": case "again": return bySteps(name, a);
      case "order": case "kind": case "first": case "swap": case "lose": return best(name, a);
      case "luck": case "mean": return odds(name, a);
      case "see": case "forget": case "kinds": case "books": case "ask": return seenCall(name, a);
      case "drift": return drift(a[0], a[1], a[2]);
      default: return keepAndSheets(name, a);
    }
  }

  private long tapeCall(String name, int[] a) {
    if (name.equals("feed")) {
      if (!is(a[0], 0, 127)) {
        return -1;
      }
      if (tape.length() == 160) {
        return -3;
      }
      tape.append((char) a[0]);
      return tape.length();
    }
    if (name.equals("end")) {
      if (!is(a[0], 0, tape.length())) {
        return -1;
      }
      int had = tape.length();
      tape.setLength(a[0]);
      return had;
    }
    return name.equals("fault") ? fault : text();
  }

  /** A state machine over single bytes: state 0 a line begins, 1 a ; is due, 2 the books, 3 wants. */
  private long text() {
    String t = tape.toString();
    tape.setLength(0);
    World told = new World();
    List<Integer> kinds = new ArrayList<>();
    boolean booksTold = false;
    int state = 0;
    int lines = 0;
    int at = 0;
    while (true) {
      while (at < t.length() && t.charAt(at) == ' ') {
        at++;
      }
      if (at == t.length()) {
        if (state != 0) {
          return refuse(2, at);
        }
        break;
      }
      String rest = t.substring(at);
      String token = rest.replaceAll("(?s)^([a-z]+|[0-9]+|;).*", "$1");
      if (!token.matches("[a-z]+|[0-9]{1,2}|;")) {
        return refuse(1, at);
      }
      boolean number = Character.isDigit(token.charAt(0));
      int value = number ? Integer.parseInt(token) : -1;
      int kind = Arrays.asList("stay", "step", "front", "often").indexOf(token);
      if (state == 0 && kind >= 0) {
        if (kinds.size() == 4) {
          return refuse(5, at);
        }
        kinds.add(kind);
        state = 1;
      } else if (state == 0 && token.equals("books")) {
        if (booksTold) {
          return refuse(4, at);
        }
        booksTold = true;
        state = 2;
      } else if (state == 0 && token.equals("want")) {
        state = 3;
      } else if ((state == 1 || state == 3) && token.equals(";")) {
        lines++;
        state = 0;
      } else if (state == 2 && number) {
        if (value < 1 || value > 6) {
          return refuse(3, at);
        }
        told.books = value;
        state = 1;
      } else if (state == 3 && number) {
        if (told.wants.size() == 16) {
          return refuse(5, at);
        }
        if (value > 5) {
          return refuse(3, at);
        }
        told.wants.add(value);
      } else {
        return refuse(2, at);
      }
      at += token.length();
    }
    for (int b : told.wants) {
      if (b >= told.books) {
        return refuse(6, t.length());
      }
    }
    for (int kind : kinds) {
      told.shelves.add(new Shelf(kind, told.books));
    }
    fault = 0;
    w = told;
    seen.clear();
    images = new World[2];
    return lines;
  }

  private long refuse(int sort, int place) {
    fault = sort;
    return -10 - place;
  }

  private long look(String name, int[] a) {
    switch (name) {
      case "rule":
        switch (a[0]) {
          case 0: return w.books;
          case 1: return w.shelves.size();
          case 2: return w.wants.size();
          case 3: return w.step;
          case 4: return w.wants.isEmpty() ? -4 : w.step % w.wants.size();
          case 5:
            int best = -4;
            for (int s = w.shelves.size() - 1; s >= 0; s--) {
              best = best < 0 || w.shelves.get(s).cost <= w.shelves.get(best).cost ? s : best;
            }
            return best;
          default: return -1;
        }
      case "shelf":
        if (!isShelf(a[0])) {
          return -1;
        }
        Shelf s = w.shelves.get(a[0]);
        if (a[1] == 0 || a[1] == 1) {
          return a[1] == 0 ? s.kind : s.cost;
        }
        if (a[1] >= 20) {
          return isBook(a[1] - 20) ? s.asked.get(a[1] - 20) : -1;
        }
        return a[1] >= 10 && isBook(a[1] - 10) ? s.row.get(a[1] - 10) : -1;
      case "place":
        return isShelf(a[0]) && isBook(a[1]) ? w.shelves.get(a[0]).row.indexOf(a[1]) : -1;
      case "want":
        return isWant(a[0]) ? w.wants.get(a[0]) : -1;
      default:
        return count(a[0]);
    }
  }

  private long count(int what) {
    switch (what) {
      case 0: return seen.size();
      case 1: return Arrays.stream(images).filter(i -> i != null).count();
      case 2: return tape.length();
      case 3: return sheets[0] == null ? -4 : java.lang.reflect.Array.getLength(sheets[0]);
      case 4: return w.shelves.stream().mapToInt(s -> s.cost).sum();
      case 5: return w.wants.stream().mapToInt(b -> b).sum();
      default: return -1;
    }
  }

  private long shelfChange(String name, int[] a) {
    if (name.equals("put")) {
      if (!is(a[0], 0, 3)) {
        return -1;
      }
      if (w.shelves.size() == 4) {
        return -3;
      }
      w.shelves.add(new Shelf(a[0], w.books));
      return w.shelves.size();
    }
    if (name.equals("cut")) {
      int had = w.shelves.size();
      if (!is(a[0], 0, had)) {
        return -1;
      }
      w.shelves = new ArrayList<>(w.shelves.subList(0, a[0]));
      return had;
    }
    if (!isShelf(a[0])) {
      return -1;
    }
    Shelf s = w.shelves.get(a[0]);
    if (name.equals("alter")) {
      int was = s.kind;
      s.kind = is(a[1], 0, 3) ? a[1] : was;
      return is(a[1], 0, 3) ? was : -1;
    }
    if (!isBook(a[1]) || !isBook(a[2])) {
      return -1;
    }
    int was = s.row.indexOf(a[1]);
    s.move(a[1], a[2]);
    return was;
  }

  private long wantChange(String name, int[] a) {
    switch (name) {
      case "set":
        return isWant(a[0]) && isBook(a[1]) ? w.wants.set(a[0], a[1]) : -1;
      case "add":
        if (!isBook(a[0])) {
          return -1;
        }
        if (w.wants.size() == 16) {
          return -3;
        }
        w.wants.add(a[0]);
        return w.wants.size();
      case "drop":
        int had = w.wants.size();
        if (!is(a[0], 0, had)) {
          return -1;
        }
        w.wants = new ArrayList<>(w.wants.subList(0, a[0]));
        return had;
      case "take":
        return isBook(a[0]) ? w.ask(a[0]) : -1;
      default:
        if (!is(a[0], 0, 100)) {
          return -1;
        }
        return w.step + a[0] >= 10000 ? -3 : w.run(a[0]);
    }
  }

  private static int spentBy(World world, int s, int n) {
    World on = new World(world);
    int before = on.shelves.get(s).spent;
    on.run(n);
    return on.shelves.get(s).spent - before;
  }

  private long bySteps(String name, int[] a) {
    World on = new World(w);
    switch (name) {
      case "runs":
        if (!is(a[0], 0, 200) || !is(a[1], 0, 3)) {
          return -1;
        }
        if (a[1] == 1) {
          TreeMap<Integer, Integer> firsts = new TreeMap<>();
          for (int s = 0; s < w.shelves.size(); s++) {
            firsts.putIfAbsent(spentBy(w, s, a[0]), s);
          }
          return firsts.isEmpty() ? -4 : firsts.firstEntry().getValue();
        }
        int sum = on.run(a[0]);
        return a[1] == 0 ? sum : a[1] == 2 ? on.most : on.moves;
      case "paid":
        return isShelf(a[0]) && is(a[1], 0, 200) ? spentBy(w, a[0], a[1]) : -1;
      case "ahead":
        if (!isShelf(a[0]) || !is(a[1], 0, 200) || !isBook(a[2])) {
          return -1;
        }
        on.run(a[1]);
        return on.shelves.get(a[0]).row.get(a[2]);
      case "when":
        if (!isShelf(a[0]) || !isBook(a[1])) {
          return -1;
        }
        for (int n = 0; n <= 200; n++) {
          World behind = new World(w);
          behind.run(n);
          if (behind.shelves.get(a[0]).row.get(0) == a[1]) {
            return n;
          }
        }
        return -4;
      default:
        return again();
    }
  }

  private long again() {
    for (int n = 1; n <= 200; n++) {
      World on = new World(w);
      on.run(n);
      boolean same = w.wants.isEmpty() || n % w.wants.size() == 0;
      for (int s = 0; s < w.shelves.size(); s++) {
        same = same && on.shelves.get(s).row.equals(w.shelves.get(s).row);
      }
      if (same) {
        return n;
      }
    }
    return -4;
  }

  private long best(String name, int[] a) {
    switch (name) {
      case "order":
        return isShelf(a[0]) && (a[1] == 0 || isBook(a[1] - 10)) ? order(a[0], a[1]) : -1;
      case "kind":
      case "first":
        if (!isShelf(a[0]) || !is(a[1], 0, 200) || !is(a[2], 0, 1)) {
          return -1;
        }
        TreeMap<Integer, Integer> found = new TreeMap<>();
        for (int i = 0; i < (name.equals("kind") ? 4 : w.books); i++) {
          World tried = new World(w);
          if (name.equals("kind")) {
            tried.shelves.get(a[0]).kind = i;
          } else {
            tried.shelves.get(a[0]).move(i, 0);
          }
          found.putIfAbsent(spentBy(tried, a[0], a[1]), i);
        }
        return a[2] == 0 ? found.firstEntry().getValue() : found.firstEntry().getKey();
      default:
        return is(a[0], 0, 200) && is(a[1], 0, 1) ? wantsBetter(name, a[0], a[1]) : -1;
    }
  }

  private long order(int s, int what) {
    int bound = (int) Math.pow(10, w.books);
    int least = Integer.MAX_VALUE;
    List<Integer> row = null;
    for (int number = 0; number < bound; number++) {
      List<Integer> tried = new ArrayList<>();
      for (int p = 0, rest = number; p < w.books; p++, rest /= 10) {
        tried.add(0, rest % 10);
      }
      if (!tried.containsAll(w.shelves.get(s).row)) {
        continue;
      }
      World on = new World(w);
      on.shelves.get(s).row = new ArrayList<>(tried);
      int paid = spentBy(on, s, w.wants.size());
      if (paid < least) {
        least = paid;
        row = tried;
      }
    }
    return what == 0 ? least : row.get(what - 10);
  }

  private long wantsBetter(String name, int n, int what) {
    int least = new World(w).run(n);
    int which = -4;
    for (int i = 0; i < w.wants.size(); i++) {
      for (int j = name.equals("swap") ? i + 1 : 0; j < (name.equals("swap") ? w.wants.size() : 1); j++) {
        World tried = new World(w);
        if (name.equals("swap")) {
          java.util.Collections.swap(tried.wants, i, j);
        } else {
          tried.wants.set(i, -1);
        }
        int paid = tried.run(n);
        if (paid < least) {
          least = paid;
          which = name.equals("swap") ? 100 * i + j : i;
        }
      }
    }
    return which < 0 || what == 0 ? which : least;
  }

  private long odds(String name, int[] a) {
    boolean lucky = name.equals("luck");
    int v = a[0];
    int n = lucky ? a[3] : a[1];
    int what = lucky ? a[4] : a[2];
    if (!is(v, 0, 10) || !is(n, 0, 8) || !is(what, 0, 1) || lucky && (!isShelf(a[1]) || !isBook(a[2]))) {
      return -1;
    }
    BigInteger above = tree(new World(w), n, v, 0, lucky ? a[1] : -1, lucky ? a[2] : -1);
    BigInteger below = BigInteger.TEN.pow(n);
    BigInteger divisor = above.gcd(below);
    return (what == 0 ? above : below).divide(divisor).longValueExact();
  }

  private static BigInteger tree(World on, int n, int v, int paid, int s, int b) {
    if (n == 0) {
      return BigInteger.valueOf(s < 0 ? paid : on.shelves.get(s).row.get(0) == b ? 1 : 0);
    }
    World comes = new World(on);
    World stays = new World(on);
    int more = comes.step(true);
    stays.step(false);
    return tree(comes, n - 1, v, paid + more, s, b).multiply(BigInteger.valueOf(10 - v))
        .add(tree(stays, n - 1, v, paid, s, b).multiply(BigInteger.valueOf(v)));
  }

  private static boolean isSeen(World world, int n, int s, int b) {
    if (s >= world.shelves.size()) {
      return false;
    }
    World on = new World(world);
    on.run(n);
    return on.shelves.get(s).row.get(0) == b;
  }

  private boolean allSeen(World world) {
    return seen.stream().allMatch(o -> isSeen(world, o[0], o[1], o[2]));
  }

  private World withWant(int i, int b) {
    World tried = new World(w);
    tried.wants.set(i, b);
    return tried;
  }

  private long seenCall(String name, int[] a) {
    switch (name) {
      case "see":
        if (!is(a[0], 0, 40) || !isShelf(a[1]) || !isBook(a[2])) {
          return -1;
        }
        if (seen.size() == 6) {
          return -3;
        }
        seen.add(a.clone());
        return seen.size();
      case "forget":
        int had = seen.size();
        if (!is(a[0], 0, had)) {
          return -1;
        }
        seen = new ArrayList<>(seen.subList(0, a[0]));
        return had;
      case "kinds":
        if (!isShelf(a[0])) {
          return -1;
        }
        int bits = 0;
        for (int k = 0; k < 4; k++) {
          World tried = new World(w);
          tried.shelves.get(a[0]).kind = k;
          bits += allSeen(tried) ? 1 << k : 0;
        }
        return bits;
      case "books":
        return isWant(a[0]) ? bookBits(a[0]) : -1;
      default:
        return isWant(a[0]) && is(a[1], 0, 1) ? ask(a[0], a[1]) : -1;
    }
  }

  private int bookBits(int i) {
    int bits = 0;
    for (int b = 0; b < w.books; b++) {
      bits += allSeen(withWant(i, b)) ? 1 << b : 0;
    }
    return bits;
  }

  private long ask(int i, int what) {
    int bits = bookBits(i);
    int fewest = Integer.bitCount(bits);
    int where = -4;
    for (int look = 0; look <= 409; look++) {
      int n = look / 10;
      int s = look % 10;
      if (s >= w.shelves.size()) {
        continue;
      }
      Map<Integer, Integer> left = new HashMap<>();
      for (int b = 0; b < 6; b++) {
        if ((bits & 1 << b) != 0) {
          World on = withWant(i, b);
          on.run(n);
          left.merge(on.shelves.get(s).row.get(0), 1, Integer::sum);
        }
      }
      int worst = left.values().stream().mapToInt(x -> x).max().orElse(0);
      if (worst < fewest) {
        fewest = worst;
        where = look;
      }
    }
    return where < 0 || what == 0 ? where : fewest;
  }

  private long drift(int seed, int n, int what) {
    if (!is(n, 1, 200) || !is(what, 0, 1)) {
      return -1;
    }
    if (w.shelves.isEmpty()) {
      return -2;
    }
    World on = new World(w);
    long grown = seed & 0xffffffffL;
    int sum = 0;
    for (int i = 0; i < n; i++) {
      grown = (grown * 1103515245L + 12345L) & 0xffffffffL;
      sum += on.ask((int) (grown / 65536 % 32768) % w.books);
    }
    if (what == 0) {
      return sum;
    }
    TreeMap<Integer, Integer> firsts = new TreeMap<>();
    for (int s = 0; s < w.shelves.size(); s++) {
      firsts.putIfAbsent(on.shelves.get(s).spent - w.shelves.get(s).spent, s);
    }
    return firsts.firstEntry().getValue();
  }

  private long keepAndSheets(String name, int[] a) {
    switch (name) {
      case "keep":
      case "back":
        if (!is(a[0], 0, 1)) {
          return -1;
        }
        boolean was = images[a[0]] != null;
        if (name.equals("keep")) {
          images[a[0]] = new World(w);
          return was ? 1 : 0;
        }
        w = was ? new World(images[a[0]]) : w;
        return was ? w.step : -2;
      case "sheet":
        if (!is(a[0], 0, 3) || !is(a[1], 0, 2) || a[2] > 40) {
          return -1;
        }
        try {
          sheets[a[0]] = a[1] == 0 ? new byte[a[2]] : a[1] == 1 ? new short[a[2]] : new int[a[2]];
          return 1;
        } catch (NegativeArraySizeException e) {
          return -14;
        }
      case "lay":
        return is(a[0], 0, 3) ? lay(sheets[a[0]], a[1], a[2]) : -1;
      case "read":
        return is(a[0], 0, 3) && is(a[1], 0, 2) && is(a[3], 0, 40) ? read(a) : -1;
      default:
        return torn;
    }
  }

  private static long lay(Object sheet, int i, int v) {
    try {
      if (sheet instanceof byte[]) {
        ((byte[]) sheet)[i] = (byte) v;
      } else if (sheet instanceof short[]) {
        ((short[]) sheet)[i] = (short) v;
      } else {
        ((int[]) sheet)[i] = v;
      }
      return 1;
    } catch (NullPointerException e) {
      return -11;
    } catch (ArrayIndexOutOfBoundsException e) {
      return -12;
    }
  }

  private long read(int[] a) {
    List<Integer> before = new ArrayList<>(w.wants);
    int found = 0;
    int i = 0;
    try {
      for (; i < a[3]; i++) {
        Object sheet = sheets[a[0]];
        int at = a[2] + i;
        int v = a[1] == 0 ? ((byte[]) sheet)[at] : a[1] == 1 ? ((short[]) sheet)[at] : ((int[]) sheet)[at];
        if (wantChange("add", new int[] {v}) < 0) {
          w.wants = before;
          return -20 - i;
        }
      }
    } catch (NullPointerException e) {
      found = 1;
    } catch (ArrayIndexOutOfBoundsException e) {
      found = 2;
    } catch (ClassCastException e) {
      found = 3;
    }
    torn = found;
    return i;
  }
}
