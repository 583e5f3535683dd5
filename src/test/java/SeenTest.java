/** Promises 31 to 35: what stood first. */
public final class SeenTest {
  public static void main(String[] args) {
    seesAndForgets();
    kinds();
    seenFromNowOn();
    shelvesThatAreGone();
    books();
    asks();
    asksWithSeen();
    asksAtTheEdge();
    wrongInputs();
    Due.end();
  }

  private static void seesAndForgets() {
    ShelfWays x = Due.told("books 3;stay;want 2;");
    for (int i = 1; i <= 6; i++) {
      Due.is(31, "see(40, 0, 2)", x.see(40, 0, 2), i);
    }
    Due.is(31, "see(0, 0, 0), the 7th", x.see(0, 0, 0), Due.FULL);
    Due.is(31, "see(41, 0, 0), the 7th", x.see(41, 0, 0), Due.BAD);
    Due.is(31, "count(0)", x.count(0), 6);
    Due.is(32, "forget(7)", x.forget(7), Due.BAD);
    Due.is(32, "forget(6)", x.forget(6), 6);
    Due.is(32, "forget(2)", x.forget(2), 6);
    Due.is(32, "forget(3)", x.forget(3), Due.BAD);
    Due.is(32, "count(0)", x.count(0), 2);
    Due.is(31, "see(0, 0, 0)", x.see(0, 0, 0), 3);
    Due.is(32, "forget(0)", x.forget(0), 3);
    Due.is(32, "forget(0)", x.forget(0), 0);
    x.see(0, 0, 0);
    x.see(0, 0, 1);
    Due.is(32, "both can not be", x.kinds(0), 0);
    x.forget(1);
    Due.is(32, "the first one is kept", x.kinds(0), 15);
  }

  private static void kinds() {
    ShelfWays x = Due.told("books 3;stay;stay;want 2;");
    Due.is(33, "nothing SEEN", x.kinds(0), 15);
    x.see(1, 0, 2);
    Due.is(33, "front, often", x.kinds(0), 12);
    Due.is(33, "by the other one, all else as it is: not so", x.kinds(1), 0);
    x.alter(0, 3);
    Due.is(33, "its own kind does not count", x.kinds(0), 12);
    Due.is(33, "by the other one all is so", x.kinds(1), 15);
    x.forget(0);
    x.see(1, 0, 0);
    x.see(2, 0, 2);
    Due.is(33, "step alone", x.kinds(0), 2);
    x.forget(0);
    x.see(40, 0, 0);
    Due.is(33, "stay alone", x.kinds(0), 1);
    x.forget(0);
    x.see(0, 0, 2);
    Due.is(33, "behind no STEPS", x.kinds(0), 0);
  }

  private static void seenFromNowOn() {
    ShelfWays x = Due.told("books 3;front;want 2 1;");
    x.see(1, 0, 2);
    Due.is(31, "before", x.kinds(0), 12);
    x.steps(1);
    // From 2 0 1, 1 is ASKED for: stay, step (2 1 0) and often (ASKED as often) keep 2 first.
    Due.is(31, "from now on", x.kinds(0), 11);
    x.keep(0);
    x.back(0);
    Due.is(31, "what is SEEN is in no IMAGE", x.count(0), 1);
  }

  private static void shelvesThatAreGone() {
    ShelfWays x = Due.told("books 3;stay;stay;want 2;");
    x.see(0, 1, 0);
    Due.is(33, "there", x.kinds(0), 15);
    x.cut(1);
    Due.is(33, "there no more", x.kinds(0), 0);
    Due.is(34, "there no more", x.books(0), 0);
    Due.is(35, "there no more", x.ask(0, 0), Due.NONE);
    x.put(0);
    Due.is(33, "there again", x.kinds(0), 15);
    Due.is(34, "there again", x.books(0), 7);
    x.forget(0);
    x.see(40, 1, 0);
    x.cut(1);
    Due.is(33, "late, there no more", x.kinds(0), 0);
  }

  private static void books() {
    ShelfWays x = Due.told("books 6;front;want 5 3;");
    Due.is(34, "nothing SEEN", x.books(0), 63);
    Due.is(34, "books(2)", x.books(2), Due.BAD);
    x.see(1, 0, 4);
    Due.is(34, "books(0)", x.books(0), 16);
    Due.is(34, "books(1), all else as it is", x.books(1), 0);
    x.forget(0);
    x.see(2, 0, 3);
    Due.is(34, "books(0)", x.books(0), 63);
    Due.is(34, "books(1)", x.books(1), 8);
    x.forget(0);
    x.see(0, 0, 1);
    Due.is(34, "behind no STEPS", x.books(0), 0);
    ShelfWays step = Due.told("books 3;step;want 1 1;");
    step.see(1, 0, 0);
    Due.is(34, "two left", step.books(0), 5);
    step.see(2, 0, 0);
    Due.is(34, "one left", step.books(0), 4);
    Due.is(34, "the WANT is as it was", step.want(0), 1);
  }

  private static void asks() {
    ask("books 3;front;want 1;", 0, 10, 1);
    ask("books 3;stay;want 1;", 0, Due.NONE, Due.NONE);
    ask("books 3;stay;front;want 1;", 0, 11, 1);
    ask("books 3;want 1;", 0, Due.NONE, Due.NONE);
    ask("books 1;front;want 0;", 0, Due.NONE, Due.NONE);
    // step: whatever it is, 0 or 1 stands first.
    ask("books 3;step;want 1 1;", 0, 10, 2);
    ask("books 3;front;want 1 2;", 1, 20, 1);
    ask("books 4;step;often;front;want 0 0 3;", 2, 32, 1);
    ask("front;want 0 0 0 0 0 0 0 0 0 0 0 0 0 0 0 0;", 15, 160, 1);
    ask("books 2;step;want 0;", 0, 10, 1);
  }

  private static void ask(String text, int i, int where, int many) {
    ShelfWays x = Due.told(text);
    String before = Due.all(x);
    Due.is(35, "ask(" + i + ", 0) of " + text, x.ask(i, 0), where);
    Due.is(35, "ask(" + i + ", 1) of " + text, x.ask(i, 1), many);
    Due.isTrue(35, "nothing is changed", before.equals(Due.all(x)));
  }

  private static void asksWithSeen() {
    ShelfWays x = Due.told("books 3;step;front;want 1 1;");
    Due.is(35, "ask(0, 0)", x.ask(0, 0), 11);
    x.see(1, 0, 0);
    // 0 and 2 are left; behind 1 STEP the front one tells them apart.
    Due.is(35, "ask(0, 0)", x.ask(0, 0), 11);
    Due.is(35, "ask(0, 1)", x.ask(0, 1), 1);
    x.cut(1);
    // By the step one alone: behind 2 STEPS, 1 0 2 or 0 1 2.
    Due.is(35, "ask(0, 0)", x.ask(0, 0), 20);
    Due.is(35, "ask(0, 1)", x.ask(0, 1), 1);
    x.see(2, 0, 0);
    Due.is(35, "one is left", x.ask(0, 0), Due.NONE);
    Due.is(35, "one is left", x.ask(0, 1), Due.NONE);
  }

  /** A step SHELF and 16 WANTS: BOOK 3 stands first in the third round alone, if it is the WANT. */
  private static void asksAtTheEdge() {
    for (int i = 6; i <= 8; i++) {
      ShelfWays x = Due.told("step;want 0 0 0 0 0 0 0 0 0 0 0 0 0 0 0 0;");
      x.see(i + 1, 0, 0);
      x.see(i + 17, 0, 0);
      Due.is(34, "books(" + i + ")", x.books(i), 9);
      Due.is(35, "ask(" + i + ", 0)", x.ask(i, 0), i < 8 ? 10 * (i + 33) : Due.NONE);
      Due.is(35, "ask(" + i + ", 1)", x.ask(i, 1), i < 8 ? 1 : Due.NONE);
    }
  }

  private static void wrongInputs() {
    ShelfWays x = Due.told("books 3;stay;want 1;");
    String before = Due.all(x);
    Due.is(31, "see(41, 0, 0)", x.see(41, 0, 0), Due.BAD);
    Due.is(31, "see(0, 1, 0)", x.see(0, 1, 0), Due.BAD);
    Due.is(31, "see(0, 0, 3)", x.see(0, 0, 3), Due.BAD);
    Due.is(32, "forget(1)", x.forget(1), Due.BAD);
    Due.is(33, "kinds(1)", x.kinds(1), Due.BAD);
    Due.is(34, "books(1)", x.books(1), Due.BAD);
    Due.is(35, "ask(1, 0)", x.ask(1, 0), Due.BAD);
    Due.is(35, "ask(0, 2)", x.ask(0, 2), Due.BAD);
    for (int wild : Due.WILD) {
      Due.is(31, "see(" + wild + ", 0, 0)", x.see(wild, 0, 0), Due.BAD);
      Due.is(31, "see(0, " + wild + ", 0)", x.see(0, wild, 0), Due.BAD);
      Due.is(31, "see(0, 0, " + wild + ")", x.see(0, 0, wild), Due.BAD);
      Due.is(32, "forget(" + wild + ")", x.forget(wild), Due.BAD);
      Due.is(33, "kinds(" + wild + ")", x.kinds(wild), Due.BAD);
      Due.is(34, "books(" + wild + ")", x.books(wild), Due.BAD);
      Due.is(35, "ask(" + wild + ", 0)", x.ask(wild, 0), Due.BAD);
      Due.is(35, "ask(0, " + wild + ")", x.ask(0, wild), Due.BAD);
    }
    Due.isTrue(31, "what is refused changes nothing", before.equals(Due.all(x)));
  }
}
