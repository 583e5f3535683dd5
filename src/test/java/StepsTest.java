/** Promises 18 to 23: steps. */
public final class StepsTest {
  public static void main(String[] args) {
    stepsRun();
    stepsEnd();
    runsBySteps();
    paidAndAhead();
    whenFirst();
    whenAtTheEdge();
    allAgain();
    againAtTheEdge();
    wrongInputs();
    Due.end();
  }

  private static void stepsRun() {
    ShelfWays x = Due.told("books 3;stay;front;want 2 2 0;");
    // stay: 3 3 1; front: 4 1 3.
    Due.is(18, "steps(0)", x.steps(0), 0);
    Due.is(18, "steps(1)", x.steps(1), 7);
    Due.is(18, "steps(2)", x.steps(2), 8);
    Due.is(18, "rule(3)", x.rule(3), 3);
    Due.is(18, "row", Due.row(x, 1), 9021);
    Due.is(18, "cost of stay", x.shelf(0, 1), 7);
    Due.is(18, "cost of front", x.shelf(1, 1), 8);
    Due.is(18, "asked", x.shelf(1, 22), 2);
    Due.is(18, "asked", x.shelf(1, 20), 1);
    // The row comes round: front has 0 2 1.
    Due.is(18, "steps(1)", x.steps(1), 6);
    x.drop(2);
    // STEP 4 is the turn of WANT 0 now.
    Due.is(18, "rule(4)", x.rule(4), 0);
    x.drop(0);
    Due.is(18, "steps(5) without WANTS", x.steps(5), 0);
    Due.is(18, "rule(3)", x.rule(3), 9);
  }

  private static void stepsEnd() {
    ShelfWays x = Due.told("stay;want 1 0 3;");
    for (int i = 0; i < 99; i++) {
      x.steps(100);
    }
    Due.is(18, "rule(3)", x.rule(3), 9900);
    Due.is(18, "steps(100) to 10000", x.steps(100), Due.FULL);
    Due.is(18, "steps(101)", x.steps(101), Due.BAD);
    Due.is(18, "rule(3)", x.rule(3), 9900);
    Due.is(18, "steps(99)", x.steps(99), 33 * 7);
    Due.is(18, "rule(3)", x.rule(3), 9999);
    Due.is(18, "steps(1) to 10000", x.steps(1), Due.FULL);
    Due.is(18, "steps(0)", x.steps(0), 0);
    Due.is(18, "cost", x.shelf(0, 1), 3333 * 7);
    Due.is(19, "runs(200, 0) goes on", x.runs(200, 0), 66 * 7 + 3);
    Due.is(23, "again() goes on", x.again(), 3);
  }

  private static void runsBySteps() {
    ShelfWays x = Due.told("books 3;stay;front;want 2 2 0;");
    String before = Due.all(x);
    int[][] due = {{0, 0, 0, 0}, {7, 0, 4, 1}, {11, 1, 4, 1}, {15, 0, 4, 2}, {21, 0, 4, 3}};
    for (int n = 0; n < due.length; n++) {
      for (int what = 0; what < 4; what++) {
        Due.is(19, "runs(" + n + ", " + what + ")", x.runs(n, what), due[n][what]);
      }
    }
    Due.isTrue(19, "nothing is changed", before.equals(Due.all(x)));
    ShelfWays front = Due.told("front;stay;stay;want 3;");
    Due.is(19, "the first SHELF PAYS most", front.runs(2, 2), 5);
    Due.is(19, "the first SHELF moves", front.runs(2, 3), 1);
    Due.is(19, "the first SHELF pays least", front.runs(2, 1), 0);
    ShelfWays even = Due.told("often;step;want 0;");
    Due.is(19, "of several the first", even.runs(200, 1), 0);
    Due.is(19, "no move", even.runs(200, 3), 0);
    ShelfWays none = Due.told("want 3;");
    Due.is(19, "no SHELVES 0", none.runs(9, 0), 0);
    Due.is(19, "no SHELVES 1", none.runs(9, 1), Due.NONE);
    Due.is(19, "no SHELVES 2", none.runs(9, 2), 0);
    Due.is(19, "no SHELVES 3", none.runs(9, 3), 0);
    ShelfWays idle = Due.told("front;");
    Due.is(19, "no WANTS 0", idle.runs(9, 0), 0);
    Due.is(19, "no WANTS 1", idle.runs(9, 1), 0);
    Due.is(19, "no WANTS 2", idle.runs(9, 2), 0);
    Due.is(19, "no WANTS 3", idle.runs(9, 3), 0);
  }

  private static void paidAndAhead() {
    ShelfWays x = Due.told("stay;step;want 3;");
    Due.is(20, "paid(0, 200)", x.paid(0, 200), 800);
    Due.is(20, "paid(1, 0)", x.paid(1, 0), 0);
    Due.is(20, "paid(1, 3)", x.paid(1, 3), 9);
    Due.is(20, "paid(1, 200)", x.paid(1, 200), 9 + 197);
    int[][] rows = {{0, 1, 2, 3}, {0, 1, 3, 2}, {0, 3, 1, 2}, {3, 0, 1, 2}, {3, 0, 1, 2}};
    for (int n = 0; n < rows.length; n++) {
      for (int p = 0; p < 4; p++) {
        Due.is(21, "ahead(1, " + n + ", " + p + ")", x.ahead(1, n, p), rows[n][p]);
        Due.is(21, "ahead(0, " + n + ", " + p + ")", x.ahead(0, n, p), p);
      }
    }
    x.steps(1);
    Due.is(20, "from now on", x.paid(1, 1), 3);
    Due.is(21, "from now on", x.ahead(1, 1, 1), 3);
    Due.is(20, "the cost is as it was", x.shelf(1, 1), 4);
    Due.is(20, "paid(2, 0)", x.paid(2, 0), Due.BAD);
    Due.is(20, "paid(0, 201)", x.paid(0, 201), Due.BAD);
    Due.is(21, "ahead(2, 0, 0)", x.ahead(2, 0, 0), Due.BAD);
    Due.is(21, "ahead(0, 201, 0)", x.ahead(0, 201, 0), Due.BAD);
    Due.is(21, "ahead(0, 200, 0)", x.ahead(0, 200, 0), 0);
    Due.is(21, "ahead(0, 0, 4)", x.ahead(0, 0, 4), Due.BAD);
  }

  private static void whenFirst() {
    ShelfWays x = Due.told("step;front;want 3 2;");
    Due.is(22, "when(0, 0)", x.when(0, 0), 0);
    Due.is(22, "when(0, 1)", x.when(0, 1), Due.NONE);
    // step: 0132 0123 again and again.
    Due.is(22, "when(0, 3)", x.when(0, 3), Due.NONE);
    Due.is(22, "when(1, 3)", x.when(1, 3), 1);
    Due.is(22, "when(1, 2)", x.when(1, 2), 2);
    Due.is(22, "when(2, 0)", x.when(2, 0), Due.BAD);
    Due.is(22, "when(0, 4)", x.when(0, 4), Due.BAD);
  }

  /** Book 1 is ASKED for in every third STEP, and must get ahead of 66 times. */
  private static void whenAtTheEdge() {
    Due.is(22, "behind 199", heldBackBy66(65).when(0, 1), 199);
    Due.is(22, "behind 200", heldBackBy66(61).when(0, 1), 200);
    Due.is(22, "behind 201", heldBackBy66(66).when(0, 1), Due.NONE);
  }

  private static ShelfWays heldBackBy66(int bySteps) {
    ShelfWays x = Due.told("books 6;often;want 0;");
    x.steps(bySteps);
    for (int i = bySteps; i < 66; i++) {
      x.take(0);
    }
    x.drop(0);
    int[] row = {2, 3, 1, 4, 5, 1};
    for (int b : row) {
      x.add(b);
    }
    return x;
  }

  private static void allAgain() {
    Due.is(23, "no SHELVES, no WANTS", new ShelfWays().again(), 1);
    Due.is(23, "no WANTS", Due.told("front;").again(), 1);
    Due.is(23, "4 SHELVES", Due.told("stay;often;stay;step;want 0;").again(), 1);
    ShelfWays less = Due.told("books 2;stay;front;want 1 1;");
    Due.is(23, "both", less.again(), Due.NONE);
    less.cut(1);
    Due.is(23, "what was cut does not count", less.again(), 2);
    Due.is(23, "no SHELVES", Due.told("want 1 1 1 1 1;").again(), 5);
    Due.is(23, "stay", Due.told("stay;want 1 2 3 0 1 2 3 0 1 2 3 0 1 2 3 0;").again(), 16);
    Due.is(23, "front, back at once", Due.told("books 2;front;want 1 0;").again(), 2);
    Due.is(23, "front, never", Due.told("books 2;front;want 1;").again(), Due.NONE);
    ShelfWays x = Due.told("books 3;front;stay;want 2 1;");
    Due.is(23, "not yet", x.again(), Due.NONE);
    x.steps(1);
    Due.is(23, "not yet", x.again(), Due.NONE);
    x.steps(1);
    Due.is(23, "from now on", x.again(), 2);
    Due.is(23, "all of them", all(x, 2), Due.NONE);
    Due.is(23, "the same WANT, not the same BOOK", Due.told("stay;want 2 2;").again(), 2);
  }

  /** 1 gets ahead of 0 at once, and 0 gets back when it was ASKED for more, by 1 in each round of 8. */
  private static void againAtTheEdge() {
    Due.is(23, "behind 192", heldAheadBy(23).again(), 192);
    Due.is(23, "behind 200", heldAheadBy(24).again(), 200);
    Due.is(23, "behind 208", heldAheadBy(25).again(), Due.NONE);
  }

  private static ShelfWays heldAheadBy(int times) {
    ShelfWays x = Due.told("books 3;stay;want 2;");
    x.steps(96);
    for (int i = 0; i < times; i++) {
      x.take(1);
    }
    x.stand(0, 2, 0);
    x.alter(0, 3);
    x.drop(0);
    int[] row = {1, 0, 0, 2, 2, 2, 2, 2};
    for (int b : row) {
      x.add(b);
    }
    return x;
  }

  /** A SHELF more of a KIND, that does not come back. */
  private static int all(ShelfWays x, int kind) {
    x.put(kind);
    return x.again();
  }

  private static void wrongInputs() {
    ShelfWays x = Due.told("stay;want 1;");
    String before = Due.all(x);
    Due.is(18, "steps(101)", x.steps(101), Due.BAD);
    Due.is(19, "runs(201, 0)", x.runs(201, 0), Due.BAD);
    Due.is(19, "runs(0, 4)", x.runs(0, 4), Due.BAD);
    for (int wild : Due.WILD) {
      Due.is(18, "steps(" + wild + ")", x.steps(wild), Due.BAD);
      Due.is(19, "runs(" + wild + ", 0)", x.runs(wild, 0), Due.BAD);
      Due.is(19, "runs(0, " + wild + ")", x.runs(0, wild), Due.BAD);
      Due.is(20, "paid(" + wild + ", 0)", x.paid(wild, 0), Due.BAD);
      Due.is(20, "paid(0, " + wild + ")", x.paid(0, wild), Due.BAD);
      Due.is(21, "ahead(" + wild + ", 0, 0)", x.ahead(wild, 0, 0), Due.BAD);
      Due.is(21, "ahead(0, " + wild + ", 0)", x.ahead(0, wild, 0), Due.BAD);
      Due.is(21, "ahead(0, 0, " + wild + ")", x.ahead(0, 0, wild), Due.BAD);
      Due.is(22, "when(" + wild + ", 0)", x.when(wild, 0), Due.BAD);
      Due.is(22, "when(0, " + wild + ")", x.when(0, wild), Due.BAD);
    }
    Due.isTrue(18, "what is refused changes nothing", before.equals(Due.all(x)));
  }
}
