import java.util.ArrayList;
import java.util.Arrays;
import java.util.List;

/**
 * What is refused changes nothing (but THE TAPE, as told): each refusal alone on an object that has
 * something of everything, and on one that is full of everything. The run compares what later
 * calls show.
 */
public final class RefusedTest {
  public static void main(String[] args) {
    for (String row : alwaysBad()) {
      something(row).end();
      most(row).end();
      lastStep(row).end();
    }
    for (String row : badOfSomething()) {
      something(row).end();
    }
    for (String row : refusedByTheMost()) {
      most(row).end();
    }
    for (int n = 1; n <= 100; n++) {
      lastStep("steps(" + n + ") FULL").end();
    }
    texts();
    questions();
    Due.end();
  }

  /** 5 BOOKS, 3 SHELVES, 3 WANTS, 2 SEEN, an IMAGE, SHEETS of two lanes, a FAULT that was torn. */
  private static Run something(String row) {
    return Run.of(0, "something of everything, " + row).told("books 5;front;often;step;want 4 1 3;").rows(
        "steps(4) 51", "keep(1) 0", "take(2) 14", "see(1, 0, 1) 1", "see(2, 1, 4) 2", "stand(2, 4, 0) 3",
        "sheet(0, 0, 3) 1", "lay(0, 0, 4) 1", "lay(0, 2, 1) 1", "sheet(1, 2, 2) 1", "lay(1, 1, 5) 1", "read(0, 0, 2, 2) 1", "torn() 2")
        .fed("stay;want 2").rows(row);
  }

  /** 6 BOOKS, 4 SHELVES, 16 WANTS, 6 SEEN, 160 bytes, a SHEET of 40 CELLS. */
  private static Run most(String row) {
    return Run.of(0, "full of everything, " + row).told("books 6;").rows("put(2) 1", "put(3) 2", "put(1) 3", "put(0) 4",
        "sheet(0, 0, 40) 1", "lay(0, 1, 5) 1", "lay(0, 2, 3) 1", "read(0, 0, 0, 16) 16", "steps(3) 48", "keep(1) 0",
        "see(0, 3, 0) 1", "see(40, 3, 0) 2", "see(1, 0, 0) 3", "see(2, 0, 0) 4", "see(3, 0, 0) 5", "see(4, 0, 0) 6")
        .fed("want 5;books 6;" + " ".repeat(145)).rows(row);
  }

  /** Both IMAGES, and no STEP more. */
  private static Run lastStep(String row) {
    Run run = Run.of(0, "the last STEP, " + row).told("books 6;front;often;step;stay;want 5 4 3;").rows("keep(0) 0");
    for (int i = 0; i < 99; i++) {
      run.notBad("steps(100)");
    }
    return run.notBad("steps(99)").rows("rule(3) 9999", "keep(1) 0", "see(40, 3, 0) 1", row);
  }

  private static List<String> alwaysBad() {
    return Arrays.asList("feed(128) BAD", "feed(-1) BAD", "end(161) BAD", "end(-1) BAD", "rule(6) BAD", "shelf(0, 2) BAD", "shelf(4, 0) BAD",
        "place(0, 6) BAD", "want(16) BAD", "alter(0, 4) BAD", "alter(4, 0) BAD", "put(4) BAD", "put(-1) BAD", "cut(5) BAD", "cut(-1) BAD",
        "stand(0, 6, 0) BAD", "stand(0, 0, 6) BAD", "stand(4, 0, 1) BAD", "set(0, 6) BAD", "set(16, 0) BAD", "add(6) BAD", "add(-1) BAD",
        "drop(17) BAD", "drop(-1) BAD", "take(6) BAD", "take(-1) BAD", "steps(101) BAD", "steps(-1) BAD", "runs(201, 0) BAD", "paid(0, 201) BAD",
        "ahead(0, 201, 0) BAD", "when(0, 6) BAD", "order(0, 16) BAD", "kind(0, 201, 0) BAD", "first(0, 201, 0) BAD", "swap(201, 0) BAD",
        "lose(201, 0) BAD", "luck(11, 0, 0, 1, 0) BAD", "mean(11, 1, 0) BAD", "see(41, 0, 0) BAD", "see(0, 4, 0) BAD", "see(0, 0, 6) BAD",
        "forget(7) BAD", "forget(-1) BAD", "kinds(4) BAD", "books(16) BAD", "ask(16, 0) BAD", "drift(0, 201, 0) BAD", "keep(2) BAD", "keep(-1) BAD",
        "back(2) BAD", "back(-1) BAD", "sheet(4, 0, 1) BAD", "sheet(0, 3, 1) BAD", "sheet(0, 1, 41) BAD", "sheet(0, 1, -1) -14", "sheet(2, 1, -1) -14",
        "lay(4, 0, 0) BAD", "lay(3, 0, 1) -11", "lay(3, 40, 1) -11", "read(4, 0, 0, 1) BAD", "read(0, 3, 0, 1) BAD",
        "read(0, 0, 0, 41) BAD", "read(0, 0, 0, -1) BAD", "count(6) BAD");
  }

  private static List<String> badOfSomething() {
    List<String> rows = new ArrayList<>(Arrays.asList("end(12) BAD", "alter(3, 0) BAD", "cut(4) BAD", "stand(0, 5, 0) BAD", "stand(0, 0, 5) BAD",
        "stand(3, 0, 1) BAD", "set(4, 0) BAD", "set(0, 5) BAD", "add(5) BAD", "drop(5) BAD", "take(5) BAD", "see(0, 3, 0) BAD", "see(0, 0, 5) BAD",
        "forget(3) BAD", "back(0) STATE", "lay(0, 3, 1) -12", "lay(2, 0, 1) -11"));
    // The first came, then the 5 that is no BOOK takes it back.
    rows.add("read(1, 2, 0, 2) -21");
    rows.add("read(1, 2, 1, 1) -20");
    return rows;
  }

  private static List<String> refusedByTheMost() {
    return Arrays.asList("feed(32) FULL", "feed(0) FULL", "put(0) FULL", "put(3) FULL", "add(0) FULL", "add(5) FULL", "see(0, 0, 0) FULL", "see(40, 3, 5) FULL", "lay(0, -1, 1) -12", "lay(0, 40, 1) -12", "read(0, 0, 0, 1) -20", "read(0, 0, 0, 40) -20");
  }

  /** A text that is refused empties THE TAPE, and nothing else. */
  private static void texts() {
    Run.of(4, "refused, something of everything").told("books 5;front;often;step;want 4 1 3;").rows("steps(4) 51", "keep(1) 0", "see(1, 0, 1) 1",
        "sheet(0, 0, 3) 1", "lay(0, 0, 4) 1").text("stay;want 2", -21, 2).end();
    String[] texts = {"#", "stay;want 1;x;", "books 2;want 9;", "books 2;stay;books 3;", "stay;stay;stay;stay;stay;", "books 2;stay;want 1 2;", "want 1 1 1 1 123"};
    int[] places = {0, 12, 13, 13, 20, 22, 13};
    int[] faults = {1, 2, 3, 4, 5, 6, 1};
    for (int i = 0; i < texts.length; i++) {
      Run.of(4, "refused").told("books 5;front;often;want 4 1 3;").rows("steps(4) 34", "keep(0) 0", "see(1, 0, 1) 1", "sheet(2, 1, 1) 1", "lay(2, 0, 3) 1")
          .text(texts[i], -10 - places[i], faults[i]).rows("rule(0) 5", "rule(1) 2", "rule(2) 3", "rule(3) 4", "count(0) 1", "count(1) 1", "count(4) 34").end();
    }
  }

  /** Nor does any question change a thing, one behind another. */
  private static void questions() {
    Run run = something("fault() 0");
    for (int s = 0; s < 3; s++) {
      run.notBad("order(" + s + ", 0)").notBad("order(" + s + ", 14)").notBad("kind(" + s + ", 200, 0)").notBad("first(" + s + ", 200, 0)")
          .notBad("paid(" + s + ", 200)").notBad("ahead(" + s + ", 200, 4)").notBad("when(" + s + ", 0)").notBad("kinds(" + s + ")")
          .notBad("luck(5, " + s + ", 4, 8, 0)");
    }
    for (int i = 0; i < 3; i++) {
      run.notBad("books(" + i + ")").notBad("ask(" + i + ", 0)");
    }
    run.notBad("swap(200, 0)").notBad("lose(200, 0)").notBad("mean(5, 8, 0)").notBad("drift(-1, 200, 0)").notBad("drift(-1, 200, 1)");
    for (int what = 0; what < 4; what++) {
      run.notBad("runs(200, " + what + ")");
    }
    run.end();
  }
}
