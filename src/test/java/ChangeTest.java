/** Promises 10 to 17: what is changed, and how SHELVES PAY and MOVE. */
public final class ChangeTest {
  public static void main(String[] args) {
    alters();
    putsAndCuts();
    stands();
    wants();
    takes();
    kindsPayAndMove();
    oftenMoves();
    askedIsCut();
    wrongInputs();
    Due.end();
  }

  private static void alters() {
    ShelfWays x = Due.told("stay;front;want 3;");
    Due.is(10, "alter(0, 3)", x.alter(0, 3), 0);
    Due.is(10, "alter(0, 1)", x.alter(0, 1), 3);
    Due.is(10, "alter(1, 0)", x.alter(1, 0), 2);
    Due.is(10, "shelf(0, 0)", x.shelf(0, 0), 1);
    Due.is(10, "shelf(1, 0)", x.shelf(1, 0), 0);
    Due.is(10, "alter(2, 0)", x.alter(2, 0), Due.BAD);
    Due.is(10, "alter(0, 4)", x.alter(0, 4), Due.BAD);
    x.steps(1);
    Due.is(10, "row of what is a step one now", Due.row(x, 0), 90132);
    Due.is(10, "row of what is a stay one now", Due.row(x, 1), 90123);
    x.alter(0, 2);
    Due.is(10, "the row stays", Due.row(x, 0), 90132);
    Due.is(10, "the cost stays", x.shelf(0, 1), 4);
    Due.is(10, "what was ASKED stays", x.shelf(0, 23), 1);
  }

  private static void putsAndCuts() {
    ShelfWays x = Due.told("books 3;want 2;");
    for (int kind = 0; kind < 4; kind++) {
      Due.is(11, "put(" + kind + ")", x.put(kind), kind + 1);
      Due.is(11, "its kind", x.shelf(kind, 0), kind);
    }
    Due.is(11, "put(0), the fifth", x.put(0), Due.FULL);
    Due.is(11, "put(4), the fifth", x.put(4), Due.BAD);
    Due.is(11, "rule(1)", x.rule(1), 4);
    x.steps(4);
    Due.is(12, "cut(5)", x.cut(5), Due.BAD);
    Due.is(12, "cut(4)", x.cut(4), 4);
    Due.is(12, "cut(3)", x.cut(3), 4);
    Due.is(12, "cut(4)", x.cut(4), Due.BAD);
    Due.is(12, "shelf(3, 0)", x.shelf(3, 0), Due.BAD);
    Due.is(12, "the others stay", Due.row(x, 2), 9201);
    Due.is(11, "put(3) again", x.put(3), 4);
    Due.is(11, "its row is as at first", Due.row(x, 3), 9012);
    Due.is(11, "its cost is as at first", x.shelf(3, 1), 0);
    Due.is(11, "none was ASKED for", x.shelf(3, 22), 0);
    Due.is(12, "cut(0)", x.cut(0), 4);
    Due.is(12, "cut(0)", x.cut(0), 0);
    Due.is(12, "rule(1)", x.rule(1), 0);
  }

  private static void stands() {
    ShelfWays x = Due.told("books 5;often;stay;");
    Due.is(13, "stand(0, 4, 1)", x.stand(0, 4, 1), 4);
    Due.is(13, "row", Due.row(x, 0), 904123);
    Due.is(13, "stand(0, 0, 3)", x.stand(0, 0, 3), 0);
    Due.is(13, "row", Due.row(x, 0), 941203);
    Due.is(13, "stand(0, 2, 2)", x.stand(0, 2, 2), 2);
    Due.is(13, "row", Due.row(x, 0), 941203);
    Due.is(13, "stand(0, 3, 0)", x.stand(0, 3, 0), 4);
    Due.is(13, "row", Due.row(x, 0), 934120);
    Due.is(13, "the other row", Due.row(x, 1), 901234);
    Due.is(13, "no cost", x.shelf(0, 1), 0);
    Due.is(13, "not ASKED", x.shelf(0, 23), 0);
    Due.is(13, "stand(0, 5, 0)", x.stand(0, 5, 0), Due.BAD);
    Due.is(13, "stand(0, 0, 5)", x.stand(0, 0, 5), Due.BAD);
    Due.is(13, "stand(2, 0, 0)", x.stand(2, 0, 0), Due.BAD);
    Due.is(13, "row", Due.row(x, 0), 934120);
  }

  private static void wants() {
    ShelfWays x = Due.told("books 3;want 1;");
    for (int i = 2; i <= 16; i++) {
      Due.is(15, "add(2)", x.add(2), i);
    }
    Due.is(15, "add(2), the 17th", x.add(2), Due.FULL);
    Due.is(15, "add(3), the 17th", x.add(3), Due.BAD);
    Due.is(15, "want(0)", x.want(0), 1);
    Due.is(15, "want(15)", x.want(15), 2);
    Due.is(14, "set(15, 0)", x.set(15, 0), 2);
    Due.is(14, "set(15, 1)", x.set(15, 1), 0);
    Due.is(14, "set(15, 3)", x.set(15, 3), Due.BAD);
    Due.is(14, "set(16, 0)", x.set(16, 0), Due.BAD);
    Due.is(14, "want(15)", x.want(15), 1);
    Due.is(14, "want(14)", x.want(14), 2);
    Due.is(16, "drop(17)", x.drop(17), Due.BAD);
    Due.is(16, "drop(2)", x.drop(2), 16);
    Due.is(16, "want(1)", x.want(1), 2);
    Due.is(16, "want(2)", x.want(2), Due.BAD);
    Due.is(16, "drop(3)", x.drop(3), Due.BAD);
    Due.is(15, "add(0)", x.add(0), 3);
    Due.is(15, "want(2)", x.want(2), 0);
    Due.is(16, "drop(0)", x.drop(0), 3);
    Due.is(16, "drop(0)", x.drop(0), 0);
    Due.is(14, "set(0, 0)", x.set(0, 0), Due.BAD);
  }

  private static void takes() {
    ShelfWays x = Due.told("books 6;stay;step;front;often;");
    Due.is(17, "take(5)", x.take(5), 6 + 6 + 7 + 6);
    Due.is(17, "rows", Due.row(x, 0), 9012345);
    Due.is(17, "rows", Due.row(x, 1), 9012354);
    Due.is(17, "rows", Due.row(x, 2), 9501234);
    Due.is(17, "rows", Due.row(x, 3), 9501234);
    Due.is(17, "take(5)", x.take(5), 6 + 5 + 1 + 1);
    Due.is(17, "take(0)", x.take(0), 1 + 1 + 3 + 2);
    Due.is(17, "cost", x.shelf(2, 1), 7 + 1 + 3);
    Due.is(17, "asked", x.shelf(1, 25), 2);
    Due.is(17, "asked", x.shelf(0, 20), 1);
    Due.is(17, "STEP stays", x.rule(3), 0);
    Due.is(17, "take(6)", x.take(6), Due.BAD);
    x.cut(0);
    Due.is(17, "take(0) of no SHELVES", x.take(0), 0);
  }

  private static void kindsPayAndMove() {
    int[][] paid = {{1, 2, 3, 4, 5, 6}, {1, 2, 3, 4, 5, 6}, {1, 3, 4, 5, 6, 7}, {1, 2, 3, 4, 5, 6}};
    int[][] goal = {{0, 1, 2, 3, 4, 5}, {0, 0, 1, 2, 3, 4}, {0, 0, 0, 0, 0, 0}, {0, 0, 0, 0, 0, 0}};
    for (int kind = 0; kind < 4; kind++) {
      for (int b = 0; b < 6; b++) {
        ShelfWays x = Due.told("books 6;");
        x.put(kind);
        Due.is(17, "kind " + kind + " pays for " + b, x.take(b), paid[kind][b]);
        Due.is(17, "cost", x.shelf(0, 1), paid[kind][b]);
        Due.is(17, "kind " + kind + " moves " + b, x.place(0, b), goal[kind][b]);
        for (int other = 0; other < 6; other++) {
          boolean between = other < b && other >= goal[kind][b];
          if (other != b) {
            Due.is(17, "those between move on", x.place(0, other), between ? other + 1 : other);
          }
        }
      }
    }
  }

  private static void oftenMoves() {
    ShelfWays x = Due.told("books 4;often;");
    x.take(2);
    x.take(2);
    Due.is(17, "twice", Due.row(x, 0), 92013);
    x.take(3);
    Due.is(17, "behind what was ASKED more", Due.row(x, 0), 92301);
    x.take(1);
    Due.is(17, "behind what was ASKED as often", Due.row(x, 0), 92310);
    x.take(1);
    Due.is(17, "not ahead of what was ASKED as often", Due.row(x, 0), 92130);
    x.take(1);
    Due.is(17, "ahead of what was ASKED fewer times", Due.row(x, 0), 91230);
    // By hand a BOOK that was never ASKED for stands first: the first PLACE is taken, not the next.
    x.stand(0, 0, 0);
    x.take(3);
    Due.is(17, "the first PLACE of all", Due.row(x, 0), 93012);
    x.take(0);
    Due.is(17, "its own PLACE", Due.row(x, 0), 93012);
  }

  private static void askedIsCut() {
    ShelfWays x = Due.told("books 2;often;want 0;");
    x.steps(98);
    Due.is(18, "asked", x.shelf(0, 20), 98);
    x.steps(1);
    Due.is(18, "asked", x.shelf(0, 20), 99);
    x.steps(1);
    Due.is(18, "asked, cut", x.shelf(0, 20), 99);
    x.set(0, 1);
    x.steps(100);
    x.steps(50);
    Due.is(18, "asked, cut", x.shelf(0, 21), 99);
    Due.is(18, "never ahead", x.place(0, 1), 1);
    Due.is(17, "take(0)", x.take(0), 1);
    Due.is(17, "asked by hand, cut", x.shelf(0, 20), 99);
  }

  private static void wrongInputs() {
    ShelfWays x = Due.told("books 5;stay;often;want 1 2;");
    x.steps(1);
    String before = Due.all(x);
    for (int wild : Due.WILD) {
      Due.is(10, "alter(" + wild + ", 0)", x.alter(wild, 0), Due.BAD);
      Due.is(10, "alter(0, " + wild + ")", x.alter(0, wild), Due.BAD);
      Due.is(11, "put(" + wild + ")", x.put(wild), Due.BAD);
      Due.is(12, "cut(" + wild + ")", x.cut(wild), Due.BAD);
      Due.is(13, "stand(" + wild + ", 0, 0)", x.stand(wild, 0, 0), Due.BAD);
      Due.is(13, "stand(0, " + wild + ", 0)", x.stand(0, wild, 0), Due.BAD);
      Due.is(13, "stand(0, 0, " + wild + ")", x.stand(0, 0, wild), Due.BAD);
      Due.is(14, "set(" + wild + ", 0)", x.set(wild, 0), Due.BAD);
      Due.is(14, "set(0, " + wild + ")", x.set(0, wild), Due.BAD);
      Due.is(15, "add(" + wild + ")", x.add(wild), Due.BAD);
      Due.is(16, "drop(" + wild + ")", x.drop(wild), Due.BAD);
      Due.is(17, "take(" + wild + ")", x.take(wild), Due.BAD);
    }
    Due.isTrue(10, "what is refused changes nothing", before.equals(Due.all(x)));
  }
}
