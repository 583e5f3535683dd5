/** Promises 37 to 43: images, sheets, how many. */
public final class SheetsTest {
  public static void main(String[] args) {
    images();
    sheets();
    lays();
    reads();
    readFaults();
    readRefused();
    counts();
    wrongInputs();
    Due.end();
  }

  private static void images() {
    ShelfWays x = Due.told("books 3;front;often;want 2 1;");
    Due.is(38, "back(0)", x.back(0), Due.STATE);
    Due.is(38, "back(1)", x.back(1), Due.STATE);
    Due.is(38, "back(2)", x.back(2), Due.BAD);
    Due.is(37, "keep(2)", x.keep(2), Due.BAD);
    x.steps(3);
    Due.is(37, "keep(1)", x.keep(1), 0);
    String kept = Due.all(x);
    x.steps(2);
    x.take(0);
    x.alter(0, 0);
    x.stand(1, 0, 0);
    x.set(0, 0);
    x.add(1);
    x.put(1);
    Due.is(38, "back(0)", x.back(0), Due.STATE);
    Due.is(38, "back(1)", x.back(1), 3);
    Due.isTrue(38, "all is as it was", kept.equals(Due.all(x)));
    x.cut(0);
    x.drop(0);
    Due.is(38, "back(1) again", x.back(1), 3);
    Due.isTrue(38, "all is as it was again", kept.equals(Due.all(x)));
    x.steps(4);
    Due.is(37, "keep(0)", x.keep(0), 0);
    Due.is(37, "keep(1) anew", x.keep(1), 1);
    Due.is(38, "back(1)", x.back(1), 7);
    Due.text(x, "books 2;#");
    Due.is(38, "back(0) behind a text that is refused", x.back(0), 7);
    Due.text(x, "books 2;");
    Due.is(38, "back(0) behind a text that is taken", x.back(0), Due.STATE);
    Due.is(37, "keep(0)", x.keep(0), 0);
  }

  private static void sheets() {
    ShelfWays x = new ShelfWays();
    Due.is(39, "sheet(0, 0, 40)", x.sheet(0, 0, 40), 1);
    Due.is(39, "sheet(3, 2, 0)", x.sheet(3, 2, 0), 1);
    Due.is(39, "sheet(4, 0, 1)", x.sheet(4, 0, 1), Due.BAD);
    Due.is(39, "sheet(0, 3, 1)", x.sheet(0, 3, 1), Due.BAD);
    Due.is(39, "sheet(0, 0, 41)", x.sheet(0, 0, 41), Due.BAD);
    Due.is(39, "sheet(0, 0, -1)", x.sheet(0, 0, -1), -14);
    Due.is(39, "sheet(0, 0, least)", x.sheet(0, 0, Integer.MIN_VALUE), -14);
    Due.is(39, "sheet(4, 0, -1)", x.sheet(4, 0, -1), Due.BAD);
    Due.is(39, "sheet(0, 3, -1)", x.sheet(0, 3, -1), Due.BAD);
    Due.is(39, "what is refused changes nothing", x.count(3), 40);
    x.lay(0, 0, 2);
    x.lay(0, 5, 3);
    Due.is(39, "sheet(0, 2, 6)", x.sheet(0, 2, 6), 1);
    Due.is(39, "count(3)", x.count(3), 6);
    x.read(0, 2, 0, 6);
    Due.is(39, "a new row of 0", x.count(5), 0);
    Due.is(39, "all came", x.rule(2), 6);
    Due.is(40, "lay(3, 0, 0) of no CELLS", x.lay(3, 0, 0), -12);
  }

  private static void lays() {
    ShelfWays x = new ShelfWays();
    x.sheet(0, 0, 2);
    x.sheet(1, 1, 2);
    x.sheet(2, 2, 2);
    Due.is(40, "lay(0, 0, 258)", x.lay(0, 0, 258), 1);
    Due.is(40, "lay(1, 0, 65539)", x.lay(1, 0, 65539), 1);
    Due.is(40, "lay(2, 0, 65537)", x.lay(2, 0, 65537), 1);
    Due.is(40, "lay(1, 1, 258)", x.lay(1, 1, 258), 1);
    Due.is(40, "lay(0, 1, 255)", x.lay(0, 1, 255), 1);
    Due.is(41, "a byte of 258", x.read(0, 0, 0, 1), 1);
    Due.is(40, "a byte of 258 is", x.want(0), 2);
    Due.is(41, "a short of 65539", x.read(1, 1, 0, 1), 1);
    Due.is(40, "a short of 65539 is", x.want(1), 3);
    Due.is(40, "an int of 65537 is no BOOK", x.read(2, 2, 0, 1), -20);
    Due.is(40, "a short of 258 is no BOOK", x.read(1, 1, 1, 1), -20);
    Due.is(40, "a byte of 255 is no BOOK", x.read(0, 0, 1, 1), -20);
    Due.is(40, "lay(0, 2, 0)", x.lay(0, 2, 0), -12);
    Due.is(40, "lay(0, -1, 0)", x.lay(0, -1, 0), -12);
    Due.is(40, "lay(3, 0, 0)", x.lay(3, 0, 0), -11);
    Due.is(40, "lay(3, -1, 0)", x.lay(3, -1, 0), -11);
    Due.is(40, "lay(4, 0, 0)", x.lay(4, 0, 0), Due.BAD);
  }

  /** A SHEET of ints with these CELLS. */
  private static ShelfWays laid(int... cells) {
    ShelfWays x = Due.told("want 1;");
    x.sheet(2, 2, cells.length);
    for (int i = 0; i < cells.length; i++) {
      x.lay(2, i, cells[i]);
    }
    return x;
  }

  private static void reads() {
    ShelfWays x = laid(3, 2, 0, 1);
    Due.is(41, "read(2, 2, 1, 3)", x.read(2, 2, 1, 3), 3);
    Due.is(41, "rule(2)", x.rule(2), 4);
    int[] due = {1, 2, 0, 1};
    for (int i = 0; i < 4; i++) {
      Due.is(41, "want(" + i + ")", x.want(i), due[i]);
    }
    Due.is(42, "torn()", x.torn(), 0);
    Due.is(41, "read(2, 2, 0, 0)", x.read(2, 2, 0, 0), 0);
    Due.is(41, "read(2, 2, -7, 0)", x.read(2, 2, -7, 0), 0);
    Due.is(42, "torn() of none", x.torn(), 0);
    x.sheet(3, 1, 40);
    x.lay(3, 39, 2);
    x.drop(0);
    Due.is(41, "read(3, 1, 39, 1)", x.read(3, 1, 39, 1), 1);
    Due.is(41, "want(0)", x.want(0), 2);
  }

  private static void readFaults() {
    ShelfWays x = laid(3, 2, 0, 1);
    Due.is(41, "read(2, 2, 2, 3)", x.read(2, 2, 2, 3), 2);
    Due.is(42, "INDEX behind the end", x.torn(), 2);
    Due.is(41, "those ahead came", x.rule(2), 3);
    Due.is(41, "want(2)", x.want(2), 1);
    Due.is(41, "read(2, 1, 0, 1)", x.read(2, 1, 0, 1), 0);
    Due.is(42, "CAST", x.torn(), 3);
    Due.is(41, "read(2, 1, -1, 1)", x.read(2, 1, -1, 1), 0);
    Due.is(42, "CAST ahead of INDEX", x.torn(), 3);
    Due.is(41, "read(1, 0, -1, 1)", x.read(1, 0, -1, 1), 0);
    Due.is(42, "NULL ahead of all", x.torn(), 1);
    Due.is(41, "read(2, 2, -1, 2)", x.read(2, 2, -1, 2), 0);
    Due.is(42, "INDEX below 0", x.torn(), 2);
    Due.is(41, "read(2, 2, 4, 1)", x.read(2, 2, 4, 1), 0);
    Due.is(42, "INDEX at the end", x.torn(), 2);
    Due.is(41, "read(2, 2, greatest, 40)", x.read(2, 2, Integer.MAX_VALUE, 40), 0);
    Due.is(41, "read(2, 2, least, 40)", x.read(2, 2, Integer.MIN_VALUE, 40), 0);
    Due.is(41, "none came", x.rule(2), 3);
    Due.is(42, "torn() stays when a read() is refused", tornAfterRefusal(x), 2);
    x.read(2, 2, 0, 1);
    Due.is(42, "torn() of the latest", x.torn(), 0);
  }

  private static int tornAfterRefusal(ShelfWays x) {
    x.read(4, 0, 0, 1);
    x.lay(2, 0, 9);
    x.read(2, 2, 0, 1);
    x.lay(2, 0, 3);
    return x.torn();
  }

  private static void readRefused() {
    ShelfWays x = laid(3, 2, 4, 1);
    Due.is(41, "read(2, 2, 0, 4)", x.read(2, 2, 0, 4), -22);
    Due.is(41, "none came", x.rule(2), 1);
    Due.is(41, "read(2, 2, 2, 1)", x.read(2, 2, 2, 1), -20);
    Due.is(41, "read(2, 2, 0, 9), the first met", x.read(2, 2, 0, 9), -22);
    Due.is(41, "read(2, 2, 3, 9), the first met", x.read(2, 2, 3, 9), 1);
    Due.is(42, "torn()", x.torn(), 2);
    x.sheet(2, 2, 40);
    Due.is(41, "14 more", x.read(2, 2, 0, 14), 14);
    Due.is(42, "torn()", x.torn(), 0);
    Due.is(41, "the 17th", x.read(2, 2, 0, 1), -20);
    x.drop(10);
    Due.is(41, "the 17th", x.read(2, 2, 0, 40), -26);
    Due.is(41, "none came", x.rule(2), 10);
    Due.is(41, "6 more", x.read(2, 2, 34, 7), 6);
    Due.is(42, "the machine is met first", x.torn(), 2);
    Due.is(41, "none fits, the machine is met first", x.read(2, 2, 40, 1), 0);
    Due.is(41, "none fits", x.read(2, 2, 39, 1), -20);
  }

  private static void counts() {
    ShelfWays x = Due.told("books 6;stay;front;want 5 4;");
    x.steps(1);
    x.see(0, 0, 0);
    x.keep(1);
    x.feed(32);
    x.feed(32);
    x.feed(32);
    Due.is(43, "count(0)", x.count(0), 1);
    Due.is(43, "count(1)", x.count(1), 1);
    Due.is(43, "count(2)", x.count(2), 3);
    Due.is(43, "count(3)", x.count(3), Due.NONE);
    Due.is(43, "count(4)", x.count(4), 6 + 7);
    Due.is(43, "count(5)", x.count(5), 9);
    x.keep(0);
    x.sheet(1, 0, 9);
    Due.is(43, "count(1)", x.count(1), 2);
    Due.is(43, "count(3)", x.count(3), Due.NONE);
    x.sheet(0, 0, 0);
    Due.is(43, "count(3)", x.count(3), 0);
    x.cut(1);
    Due.is(43, "count(4)", x.count(4), 6);
    Due.is(43, "count(6)", x.count(6), Due.BAD);
  }

  private static void wrongInputs() {
    ShelfWays x = Due.told("stay;want 1;");
    x.sheet(0, 0, 3);
    String before = Due.all(x);
    Due.is(41, "read(4, 0, 0, 0)", x.read(4, 0, 0, 0), Due.BAD);
    Due.is(41, "read(0, 3, 0, 0)", x.read(0, 3, 0, 0), Due.BAD);
    Due.is(41, "read(0, 0, 0, 41)", x.read(0, 0, 0, 41), Due.BAD);
    for (int wild : Due.WILD) {
      Due.is(37, "keep(" + wild + ")", x.keep(wild), Due.BAD);
      Due.is(38, "back(" + wild + ")", x.back(wild), Due.BAD);
      Due.is(39, "sheet(" + wild + ", 0, 0)", x.sheet(wild, 0, 0), Due.BAD);
      Due.is(39, "sheet(0, " + wild + ", 0)", x.sheet(0, wild, 0), Due.BAD);
      Due.is(39, "sheet(0, 0, " + wild + ")", x.sheet(0, 0, wild), wild < 0 ? -14 : Due.BAD);
      Due.is(40, "lay(" + wild + ", 0, 0)", x.lay(wild, 0, 0), Due.BAD);
      Due.is(40, "lay(0, " + wild + ", 0)", x.lay(0, wild, 0), -12);
      Due.is(41, "read(" + wild + ", 0, 0, 0)", x.read(wild, 0, 0, 0), Due.BAD);
      Due.is(41, "read(0, " + wild + ", 0, 0)", x.read(0, wild, 0, 0), Due.BAD);
      Due.is(41, "read(0, 0, 0, " + wild + ")", x.read(0, 0, 0, wild), Due.BAD);
      Due.is(43, "count(" + wild + ")", x.count(wild), Due.BAD);
    }
    Due.isTrue(37, "what is refused changes nothing", before.equals(Due.all(x)));
  }
}
