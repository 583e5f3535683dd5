/**
 * Each SHELF is its own, and nothing is left of what was tried out or refused before: the calls here
 * come right behind a change, each in a run of its own.
 */
public final class LeftoversTest {
  public static void main(String[] args) {
    otherShelves();
    cameSince();
    goneSince();
    leftOfARefusedText();
    seenInAnyOrder();
    meanOfEachShelf();
    Due.end();
  }

  private static void row(int promise, String sentence, String text, String change, String row) {
    Run.of(promise, sentence).told(text).rows(change, row).end();
  }

  /** The last of 4 SHELVES is not as the first one. */
  private static void otherShelves() {
    String text = "stay;stay;stay;front;want 3 2 3 2;";
    Run.of(13, "of a SHELF").told(text).rows("stand(3, 3, 0) 3", "place(3, 3) 0", "place(0, 3) 3", "place(2, 3) 3", "stand(1, 0, 3) 0",
        "place(1, 0) 3", "place(0, 0) 0", "place(3, 0) 1", "stand(1, 0, 0) 3").end();
    Run.of(10, "of a SHELF").told(text).rows("alter(3, 1) 2", "shelf(0, 0) 0", "shelf(3, 0) 1", "alter(2, 3) 0", "shelf(1, 0) 0", "shelf(2, 0) 3").end();
    // stay 2 1 2 1 for 2 3 0 1; front 1 3 3 3 for 3 2 0 1.
    Run.of(24, "on a SHELF").told(text).rows("order(3, 0) 10", "order(3, 10) 3", "order(3, 11) 2", "order(3, 12) 0", "order(3, 13) 1", "order(0, 0) 6",
        "order(0, 10) 2", "order(0, 11) 3").end();
    Run.of(24, "as it was ASKED on a SHELF").told("books 2;stay;often;want 1 0 0;").rows("order(1, 0) 5", "order(1, 10) 1", "alter(0, 3) 0", "stand(0, 1, 0) 1",
        "take(1) 3", "take(1) 2", "order(0, 0) 5", "order(0, 10) 1").end();
    // 3 stands first on the last one: stay 1 3 1 3. On the others: stay 4 3 4 3, step 4 4 4 4, front 5 5 3 3, often 4 4 1 2.
    Run.of(25, "of a SHELF").told(text).rows("stand(3, 3, 0) 3", "kind(3, 1, 0) 0", "kind(3, 1, 1) 1", "kind(0, 1, 1) 4", "kind(1, 1, 1) 4", "kind(2, 4, 0) 3",
        "kind(2, 4, 1) 11", "kind(0, 4, 1) 11").end();
    // What a KIND before has moved is not there for the next one: stay 4 4, step 4 3, front 5 1, often 4 1.
    Run.of(25, "each KIND from what is now").told("stay;stay;want 3;").rows("kind(1, 2, 0) 3", "kind(1, 2, 1) 5", "kind(0, 2, 0) 3", "kind(0, 2, 1) 5").end();
    // stay: 2 first 4 1 4 1; front: 3 first 1 5 3 3.
    Run.of(26, "on a SHELF").told(text).rows("first(3, 4, 0) 3", "first(3, 4, 1) 12", "first(0, 4, 0) 2", "first(0, 4, 1) 10").end();
    Run.of(26, "on a SHELF").told("stay;stay;want 3;").rows("stand(1, 3, 1) 3", "first(1, 0, 0) 0", "first(1, 1, 0) 3", "stand(1, 3, 3) 1", "first(1, 2, 1) 2").end();
    Run.of(20, "by a SHELF").told(text).rows("paid(3, 2) 10", "paid(2, 2) 7", "ahead(3, 2, 0) 2", "ahead(2, 2, 0) 0", "when(3, 2) 2", "when(2, 2) NONE",
        "luck(0, 3, 2, 2, 0) 1", "luck(0, 2, 2, 2, 0) 0").end();
  }

  private static void cameSince() {
    String now = "a SHELF that came since";
    String text = "books 3;stay;want 1;";
    String put = "put(2) 2";
    row(7, now, text, put, "shelf(1, 0) 2");
    row(8, now, text, put, "place(1, 2) 2");
    row(10, now, text, put, "alter(1, 0) 2");
    row(13, now, text, put, "stand(1, 2, 0) 2");
    row(17, now, text, put, "take(1) 5");
    row(18, now, text, put, "steps(1) 5");
    row(19, now, text, put, "runs(1, 0) 5");
    row(19, now, text, put, "runs(2, 1) 0");
    row(19, now, text, put, "runs(1, 2) 3");
    row(19, now, text, put, "runs(1, 3) 1");
    row(20, now, text, put, "paid(1, 1) 3");
    row(21, now, text, put, "ahead(1, 1, 0) 1");
    row(22, now, text, put, "when(1, 1) 1");
    row(23, now, text, put, "again() NONE");
    row(24, now, text, put, "order(1, 0) 1");
    row(24, now, text, put, "order(1, 10) 1");
    row(25, now, text, put, "kind(1, 1, 1) 2");
    row(26, now, text, put, "first(1, 1, 0) 1");
    row(28, now, text, put, "lose(1, 1) 0");
    row(29, now, text, put, "luck(0, 1, 1, 1, 0) 1");
    row(30, now, text, put, "mean(0, 1, 0) 5");
    row(31, now, text, put, "see(40, 1, 2) 1");
    row(33, now, text, put, "kinds(1) 15");
    row(35, now, text, put, "ask(0, 0) 11");
    row(36, now, text, put, "drift(1, 1, 0) 7");
    row(34, "a WANT that came since", "books 3;front;want 1;", "add(2) 2", "books(1) 7");
    row(35, "a WANT that came since", "books 3;front;want 1;", "add(2) 2", "ask(1, 0) 20");
    row(27, "a WANT that came since", "books 3;front;want 1;", "add(0) 2", "swap(1, 0) 1");
    row(28, "a WANT that came since", "books 3;stay;want 0;", "add(2) 2", "lose(2, 0) 1");
    row(9, "a WANT that came since", "books 3;front;want 1;", "add(2) 2", "want(1) 2");
    row(14, "a WANT that came since", "books 3;front;want 1;", "add(2) 2", "set(1, 0) 2");
  }

  private static void goneSince() {
    String now = "a SHELF that is gone since";
    String text = "books 3;stay;front;want 2;";
    String cut = "cut(1) 2";
    String[] bad = {"shelf(1, 0) BAD", "place(1, 0) BAD", "alter(1, 0) BAD", "stand(1, 0, 0) BAD", "paid(1, 1) BAD", "ahead(1, 1, 0) BAD", "when(1, 0) BAD",
        "order(1, 0) BAD", "order(1, 10) BAD", "kind(1, 1, 0) BAD", "first(1, 1, 0) BAD", "luck(0, 1, 0, 1, 0) BAD", "see(0, 1, 0) BAD", "kinds(1) BAD"};
    for (String row : bad) {
      row(12, now, text, cut, row);
    }
    String[] others = {"take(2) 3", "steps(1) 3", "runs(1, 0) 3", "runs(2, 1) 0", "runs(1, 2) 3", "runs(1, 3) 0", "again() 1", "lose(1, 1) 0", "mean(0, 1, 0) 3",
        "ask(0, 0) NONE", "drift(1, 1, 0) 3", "count(4) 0", "rule(5) 0", "swap(1, 0) NONE"};
    for (String row : others) {
      row(12, now, text, cut, row);
    }
    String[] wants = {"want(0) BAD", "set(0, 0) BAD", "books(0) BAD", "ask(0, 0) BAD", "rule(4) NONE", "runs(9, 0) 0", "lose(9, 0) NONE", "swap(9, 0) NONE",
        "again() 1", "mean(0, 8, 0) 0", "count(5) 0", "order(0, 0) 0", "when(1, 2) NONE"};
    for (String row : wants) {
      row(16, "WANTS that are gone since", text, "drop(0) 1", row);
    }
  }

  /** Of a text that was refused neither its BOOKS nor its SHELVES and WANTS are there. */
  private static void leftOfARefusedText() {
    String[] there = {"rule(0) 3", "rule(1) 1", "rule(2) 1", "place(0, 2) 2", "shelf(0, 12) 2", "shelf(0, 22) 0", "stand(0, 2, 0) 2", "stand(0, 0, 2) 0",
        "set(0, 2) 1", "add(2) 2", "take(2) 3", "ahead(0, 1, 2) 2", "when(0, 2) NONE", "order(0, 12) 2", "first(0, 1, 0) 1", "luck(10, 0, 2, 1, 1) 1",
        "see(0, 0, 2) 1", "books(0) 7", "kinds(0) 15", "ask(0, 0) NONE", "drift(1, 1, 0) 3", "put(0) 2", "runs(1, 0) 2", "steps(1) 2", "paid(0, 1) 2",
        "kind(0, 1, 1) 2", "swap(1, 0) NONE", "lose(1, 0) 0", "mean(0, 1, 0) 2", "again() 1", "keep(0) 0", "count(5) 1"};
    String[] notThere = {"place(0, 3) BAD", "shelf(0, 13) BAD", "shelf(0, 23) BAD", "stand(0, 3, 0) BAD", "stand(0, 0, 3) BAD", "set(0, 3) BAD", "add(3) BAD",
        "take(3) BAD", "ahead(0, 1, 3) BAD", "when(0, 3) BAD", "order(0, 13) BAD", "luck(10, 0, 3, 1, 1) BAD", "see(0, 0, 3) BAD", "shelf(1, 0) BAD",
        "want(1) BAD", "books(1) BAD", "ask(1, 0) BAD", "set(1, 0) BAD", "alter(1, 0) BAD", "paid(1, 1) BAD", "ahead(1, 0, 0) BAD", "when(1, 0) BAD",
        "order(1, 0) BAD", "kind(1, 0, 0) BAD", "first(1, 0, 0) BAD", "luck(0, 1, 0, 0, 0) BAD", "see(0, 1, 0) BAD", "kinds(1) BAD", "cut(2) BAD", "drop(2) BAD"};
    String[][] texts = {{"books 6;front;front;want 5 5;x", "29"}, {"books 1;x", "8"}};
    for (String[] text : texts) {
      for (String[] rows : new String[][] {there, notThere}) {
        for (String row : rows) {
          Run.of(4, "that which was told stays").told("books 3;stay;want 1;").text(text[0], -10 - Long.parseLong(text[1]), 2).rows(row).end();
        }
      }
    }
  }

  private static void seenInAnyOrder() {
    Run.of(33, "all is as SEEN, the later STEPS first").told("books 3;stay;want 2;").rows("see(1, 0, 2) 1", "see(0, 0, 0) 2", "kinds(0) 12", "books(0) 0",
        "alter(0, 2) 0", "books(0) 4").end();
    Run.of(33, "all is as SEEN, the later STEPS last").told("books 3;stay;want 2;").rows("see(0, 0, 0) 1", "see(1, 0, 2) 2", "kinds(0) 12").end();
    Run.of(33, "SEEN of several SHELVES").told("books 3;stay;front;want 2;").rows("see(1, 0, 0) 1", "see(1, 1, 2) 2", "kinds(0) 3", "kinds(1) 12", "books(0) 4",
        "see(1, 1, 0) 3", "kinds(1) 0", "books(0) 0").end();
    Run.of(34, "SEEN of several SHELVES").told("books 3;step;front;want 1 2;").rows("see(1, 1, 2) 1", "see(1, 0, 0) 2", "see(40, 1, 2) 3", "books(0) 4", "books(1) 0",
        "kinds(0) 0", "set(0, 2) 1", "kinds(0) 3").end();
  }

  private static void meanOfEachShelf() {
    // stay PAYS 2 by half in each of two STEPS; front 4, 3, 3 or 0, each by a quarter.
    Run.of(30, "the mean by all").told("books 2;stay;front;want 1;").rows("mean(5, 2, 0) 9", "mean(5, 2, 1) 2", "cut(1) 2", "mean(5, 2, 0) 2", "mean(5, 2, 1) 1").end();
    Run.of(30, "the mean by all").told("books 2;front;front;front;front;want 1;").rows("mean(5, 2, 0) 10", "mean(5, 2, 1) 1").end();
  }
}
