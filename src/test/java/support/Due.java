/** Compares answers with those that are due, and counts. */
final class Due {
  static final int BAD = -1, STATE = -2, FULL = -3, NONE = -4;
  /** Numbers that are seldom thought of. */
  static final int[] WILD = {Integer.MIN_VALUE, -1000, -2, -1, 1000, Integer.MAX_VALUE};

  private static int checks = 0;
  private static int wrong = 0;

  private Due() {}

  static void is(int promise, String what, long got, long want) {
    checks++;
    if (got != want) {
      wrong++;
      System.out.println("promise " + promise + ": " + what + " answered " + got + ", due is " + want);
    }
  }

  static void isTrue(int promise, String what, boolean got) {
    is(promise, what, got ? 1 : 0, 1);
  }

  /** Feeds all bytes of a text. */
  static void feed(ShelfWays x, String bytes) {
    for (int i = 0; i < bytes.length(); i++) {
      x.feed(bytes.charAt(i));
    }
  }

  static int text(ShelfWays x, String bytes) {
    feed(x, bytes);
    return x.text();
  }

  static ShelfWays told(String bytes) {
    ShelfWays x = new ShelfWays();
    int answer = text(x, bytes);
    if (answer < 0) {
      is(4, "text \"" + bytes + "\"", answer, 0);
    }
    return x;
  }

  /** The row of a SHELF as a number, figure by figure, after a leading 9. */
  static int row(ShelfWays x, int s) {
    int row = 9;
    for (int p = 0; p < x.rule(0); p++) {
      row = row * 10 + x.shelf(s, 10 + p);
    }
    return row;
  }

  /** All that can be asked of an object without changing it, in one text. */
  static String all(ShelfWays x) {
    StringBuilder all = new StringBuilder();
    for (int what = 0; what < 6; what++) {
      all.append(x.rule(what)).append(' ').append(x.count(what)).append(' ');
    }
    for (int s = 0; s < 4; s++) {
      for (int what = 0; what < 26; what++) {
        all.append(x.shelf(s, what)).append(' ');
      }
    }
    for (int i = 0; i < 16; i++) {
      all.append(x.want(i)).append(' ');
    }
    return all.append(x.fault()).append(' ').append(x.torn()).toString();
  }

  static void end() {
    System.out.println(checks + " answers looked at, " + wrong + " wrong");
    if (wrong != 0) {
      System.exit(1);
    }
  }
}
