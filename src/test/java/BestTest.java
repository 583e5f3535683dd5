/** Promises 24 to 28: what is best. */
public final class BestTest {
  public static void main(String[] args) {
    orders();
    kinds();
    firsts();
    swaps();
    loses();
    changesNothing();
    asItIsNow();
    wrongInputs();
    Due.end();
  }

  private static void orders() {
    order("books 3;stay;want 2 2 1;", 4, 210);
    order("books 3;stay;want 2;", 1, 201);
    order("books 4;step;", 0, 123);
    order("books 1;often;want 0 0;", 2, 0);
    // front: the BOOK first ASKED for stands first, 2 pays 3 from PLACE 1, then 1; no other is cheaper.
    order("books 3;front;want 1 2 2;", 5, 120);
    order("books 6;stay;want 5 4 3 2 1 0;", 21, 12345);
    ShelfWays x = Due.told("books 3;stay;");
    x.stand(0, 2, 0);
    Due.is(24, "not as it is, but the first", x.order(0, 10), 0);
    Due.is(24, "it stays as it is", Due.row(x, 0), 9201);
    Due.is(24, "order(0, 13)", x.order(0, 13), Due.BAD);
    Due.is(24, "order(0, 9)", x.order(0, 9), Due.BAD);
    Due.is(24, "order(0, 1)", x.order(0, 1), Due.BAD);
    Due.is(24, "order(1, 0)", x.order(1, 0), Due.BAD);
    // Only from STEP 1 on it is 2 that comes first.
    ShelfWays later = Due.told("books 3;front;want 1 2 2;");
    later.steps(1);
    Due.is(24, "from now on", later.order(0, 10), 2);
    Due.is(24, "from now on", later.order(0, 0), 5);
    // What was ASKED counts: 0 was ASKED too often to be passed.
    ShelfWays often = Due.told("books 2;often;want 1 1 0;");
    often.take(0);
    often.take(0);
    often.take(0);
    Due.is(24, "as ASKED until now", often.order(0, 0), 4);
    Due.is(24, "as ASKED until now", often.order(0, 10), 1);
  }

  private static void order(String text, int paid, int row) {
    ShelfWays x = Due.told(text);
    Due.is(24, "order(0, 0) of " + text, x.order(0, 0), paid);
    int rest = row;
    for (int p = x.rule(0) - 1; p >= 0; p--) {
      Due.is(24, "order(0, " + (10 + p) + ") of " + text, x.order(0, 10 + p), rest % 10);
      rest /= 10;
    }
  }

  private static void kinds() {
    ShelfWays x = Due.told("books 3;stay;want 2 2 2;");
    // stay 3 3 3; step 3 2 1; front 4 1 1; often 3 1 1.
    Due.is(25, "kind(0, 3, 0)", x.kind(0, 3, 0), 3);
    Due.is(25, "kind(0, 3, 1)", x.kind(0, 3, 1), 5);
    Due.is(25, "kind(0, 1, 0)", x.kind(0, 1, 0), 0);
    Due.is(25, "kind(0, 1, 1)", x.kind(0, 1, 1), 3);
    Due.is(25, "kind(0, 0, 0)", x.kind(0, 0, 0), 0);
    Due.is(25, "kind(0, 0, 1)", x.kind(0, 0, 1), 0);
    Due.is(25, "kind(0, 200, 1)", x.kind(0, 200, 1), 202);
    Due.is(25, "kind(0, 201, 0)", x.kind(0, 201, 0), Due.BAD);
    Due.is(25, "kind(0, 0, 2)", x.kind(0, 0, 2), Due.BAD);
    Due.is(25, "kind(1, 0, 0)", x.kind(1, 0, 0), Due.BAD);
    // 0 was ASKED 2 times: often gets 2 ahead of it no sooner than in the third STEP.
    x.take(0);
    x.take(0);
    x.stand(0, 0, 2);
    x.stand(0, 0, 0);
    x.stand(0, 2, 1);
    // row 0 2 1: stay 2 2 2; step 2 1 1; front 3 1 1; often 2 2 2.
    Due.is(25, "kind(0, 3, 0)", x.kind(0, 3, 0), 1);
    Due.is(25, "kind(0, 3, 1)", x.kind(0, 3, 1), 4);
  }

  private static void firsts() {
    ShelfWays x = Due.told("books 3;stay;want 2 1;");
    // 012: 3 2; 102: 3 1; 201: 1 3.
    Due.is(26, "first(0, 2, 0)", x.first(0, 2, 0), 1);
    Due.is(26, "first(0, 2, 1)", x.first(0, 2, 1), 4);
    Due.is(26, "first(0, 1, 0)", x.first(0, 1, 0), 2);
    Due.is(26, "first(0, 1, 1)", x.first(0, 1, 1), 1);
    Due.is(26, "first(0, 0, 0)", x.first(0, 0, 0), 0);
    Due.is(26, "first(0, 0, 1)", x.first(0, 0, 1), 0);
    x.stand(0, 2, 0);
    // now 201: 0 first is 021: 2 3; 1 first is 120: 2 1; 2 first: 1 3.
    Due.is(26, "of those that stand now", x.first(0, 2, 0), 1);
    Due.is(26, "of those that stand now", x.first(0, 2, 1), 3);
    Due.is(26, "first(0, 200, 1)", x.first(0, 200, 1), 300);
    Due.is(26, "first(0, 201, 1)", x.first(0, 201, 1), Due.BAD);
    Due.is(26, "first(0, 0, 2)", x.first(0, 0, 2), Due.BAD);
    Due.is(26, "first(1, 0, 0)", x.first(1, 0, 0), Due.BAD);
  }

  private static void swaps() {
    ShelfWays x = Due.told("books 2;front;want 1 0 1 0;");
    // 3 3 3 3 as it is; 0 0 1 1 pays 1 1 3 1.
    Due.is(27, "swap(4, 0)", x.swap(4, 0), 3);
    Due.is(27, "swap(4, 1)", x.swap(4, 1), 6);
    // In 2 STEPS: 0 1 pays 1 3, 1 1 pays 3 1, 0 0 pays 1 1.
    Due.is(27, "swap(2, 0)", x.swap(2, 0), 3);
    Due.is(27, "swap(2, 1)", x.swap(2, 1), 2);
    Due.is(27, "swap(1, 0), of several the least", x.swap(1, 0), 1);
    Due.is(27, "swap(1, 1)", x.swap(1, 1), 1);
    Due.is(27, "swap(0, 0)", x.swap(0, 0), Due.NONE);
    Due.is(27, "swap(0, 1)", x.swap(0, 1), Due.NONE);
    x.put(0);
    // The stay one: 2 1 in 2 STEPS as it is, 1 1 for 0 0.
    Due.is(27, "by all", x.swap(2, 1), 4);
    ShelfWays stay = Due.told("stay;want 0 0 3 1;");
    Due.is(27, "lesser and greater", stay.swap(3, 0), 203);
    Due.is(27, "lesser and greater", stay.swap(3, 1), 4);
    Due.is(27, "none less", stay.swap(4, 0), Due.NONE);
    Due.is(27, "none less", stay.swap(1, 1), Due.NONE);
    Due.is(27, "no SHELVES", Due.told("want 0 1;").swap(9, 0), Due.NONE);
    Due.is(27, "no WANTS", Due.told("front;").swap(9, 0), Due.NONE);
    Due.is(27, "one WANT", Due.told("front;want 3;").swap(9, 0), Due.NONE);
    ShelfWays many = Due.told("stay;want 0 0 0 0 0 0 0 0 0 0 0 0 0 0 3 0;");
    Due.is(27, "the last two", many.swap(15, 0), 1415);
    Due.is(27, "swap(201, 0)", many.swap(201, 0), Due.BAD);
    Due.is(27, "swap(0, 2)", many.swap(0, 2), Due.BAD);
  }

  private static void loses() {
    ShelfWays x = Due.told("books 3;stay;want 0 2 2;");
    Due.is(28, "lose(3, 0), of several the first", x.lose(3, 0), 1);
    Due.is(28, "lose(3, 1)", x.lose(3, 1), 4);
    Due.is(28, "lose(1, 0)", x.lose(1, 0), 0);
    Due.is(28, "lose(1, 1)", x.lose(1, 1), 0);
    Due.is(28, "lose(0, 0)", x.lose(0, 0), Due.NONE);
    Due.is(28, "lose(0, 1)", x.lose(0, 1), Due.NONE);
    // Its STEPS stay, with nothing in them: 0 . 2 0 . 2 pays 1 3 1 3.
    Due.is(28, "lose(6, 1)", x.lose(6, 1), 8);
    Due.is(28, "lose(5, 0)", x.lose(5, 0), 1);
    Due.is(28, "lose(5, 1)", x.lose(5, 1), 5);
    Due.is(28, "lose(4, 1)", x.lose(4, 1), 5);
    x.steps(1);
    Due.is(28, "from now on", x.lose(1, 0), 1);
    // front: 2 2 as it is pays 4 1; lose the first of both pays . 4; lose the second 4 .
    ShelfWays front = Due.told("books 3;front;want 2 2;");
    Due.is(28, "of several the first", front.lose(2, 0), 0);
    Due.is(28, "lose(2, 1)", front.lose(2, 1), 4);
    Due.is(28, "no SHELVES", Due.told("want 0 1;").lose(9, 0), Due.NONE);
    Due.is(28, "no WANTS", Due.told("front;").lose(9, 0), Due.NONE);
    Due.is(28, "16 WANTS", Due.told("stay;want 0 0 0 0 0 0 0 0 0 0 0 0 0 0 0 3;").lose(16, 0), 15);
    Due.is(28, "lose(200, 1)", Due.told("stay;want 3;").lose(200, 1), 0);
    Due.is(28, "lose(201, 0)", x.lose(201, 0), Due.BAD);
    Due.is(28, "lose(0, 2)", x.lose(0, 2), Due.BAD);
  }

  private static void changesNothing() {
    ShelfWays x = Due.told("books 5;front;often;want 4 1 3 1;");
    x.steps(3);
    String before = Due.all(x);
    x.order(0, 0);
    x.kind(1, 9, 0);
    x.first(1, 9, 0);
    x.swap(9, 0);
    x.lose(9, 0);
    Due.isTrue(24, "nothing is changed", before.equals(Due.all(x)));
  }

  /** Each of them as the first call behind a change. */
  private static void asItIsNow() {
    ShelfWays x = Due.told("books 3;stay;want 0;");
    x.set(0, 2);
    Due.is(25, "kind(0, 1, 1)", x.kind(0, 1, 1), 3);
    x.set(0, 1);
    Due.is(26, "first(0, 1, 0)", x.first(0, 1, 0), 1);
    x.set(0, 2);
    Due.is(24, "order(0, 10)", x.order(0, 10), 2);
    x.set(0, 1);
    Due.is(28, "lose(1, 0)", x.lose(1, 0), 0);
    x.add(0);
    Due.is(27, "swap(1, 0)", x.swap(1, 0), 1);
  }

  private static void wrongInputs() {
    ShelfWays x = Due.told("stay;want 1;");
    for (int wild : Due.WILD) {
      Due.is(24, "order(" + wild + ", 0)", x.order(wild, 0), Due.BAD);
      Due.is(24, "order(0, " + wild + ")", x.order(0, wild), Due.BAD);
      Due.is(25, "kind(" + wild + ", 0, 0)", x.kind(wild, 0, 0), Due.BAD);
      Due.is(25, "kind(0, " + wild + ", 0)", x.kind(0, wild, 0), Due.BAD);
      Due.is(25, "kind(0, 0, " + wild + ")", x.kind(0, 0, wild), Due.BAD);
      Due.is(26, "first(" + wild + ", 0, 0)", x.first(wild, 0, 0), Due.BAD);
      Due.is(26, "first(0, " + wild + ", 0)", x.first(0, wild, 0), Due.BAD);
      Due.is(26, "first(0, 0, " + wild + ")", x.first(0, 0, wild), Due.BAD);
      Due.is(27, "swap(" + wild + ", 0)", x.swap(wild, 0), Due.BAD);
      Due.is(27, "swap(0, " + wild + ")", x.swap(0, wild), Due.BAD);
      Due.is(28, "lose(" + wild + ", 0)", x.lose(wild, 0), Due.BAD);
      Due.is(28, "lose(0, " + wild + ")", x.lose(0, wild), Due.BAD);
    }
  }
}
