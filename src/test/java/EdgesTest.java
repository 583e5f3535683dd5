/** The sentences of promises 1 to 43 that name an edge, each with a run of its own. */
public final class EdgesTest {
  public static void main(String[] args) {
    newObject();
    tapeCalls();
    whatThereIs();
    shelvesChanged();
    wantsChanged();
    stepsEdges();
    runsEdges();
    whenAndAgain();
    orderEdges();
    kindAndFirst();
    swapEdges();
    loseEdges();
    oddsEdges();
    seenEdges();
    askEdges();
    driftEdges();
    imageEdges();
    layEdges();
    readEdges();
    tornEdges();
    countEdges();
    Due.end();
  }

  private static void newObject() {
    Run.of(1, "4 BOOKS, no SHELVES, no WANTS; SHEETS have nothing").rows(
        "rule(0) 4", "rule(1) 0", "rule(2) 0", "rule(3) 0", "rule(4) NONE", "rule(5) NONE", "fault() 0", "torn() 0",
        "count(0) 0", "count(1) 0", "count(2) 0", "count(3) NONE", "count(4) 0", "count(5) 0",
        "shelf(0, 0) BAD", "place(0, 0) BAD", "want(0) BAD", "alter(0, 0) BAD", "cut(0) 0", "cut(1) BAD",
        "stand(0, 0, 0) BAD", "set(0, 0) BAD", "drop(0) 0", "drop(1) BAD", "take(3) 0", "take(4) BAD", "steps(0) 0",
        "runs(200, 0) 0", "runs(200, 1) NONE", "runs(200, 2) 0", "runs(200, 3) 0", "paid(0, 0) BAD", "ahead(0, 0, 0) BAD",
        "when(0, 0) BAD", "again() 1", "order(0, 0) BAD", "kind(0, 0, 0) BAD", "first(0, 0, 0) BAD", "swap(200, 0) NONE",
        "lose(200, 0) NONE", "luck(0, 0, 0, 0, 0) BAD", "mean(0, 8, 0) 0", "mean(0, 8, 1) 1", "see(0, 0, 0) BAD",
        "forget(0) 0", "forget(1) BAD", "kinds(0) BAD", "books(0) BAD", "ask(0, 0) BAD", "drift(0, 1, 0) STATE",
        "back(0) STATE", "back(1) STATE", "end(0) 0", "end(1) BAD", "lay(0, 0, 0) -11", "lay(3, 0, 0) -11",
        "read(0, 0, 0, 0) 0", "read(3, 2, 0, 1) 0", "torn() 1", "text() 0", "fault() 0").end();
  }

  private static void tapeCalls() {
    Run.of(2, "a byte (0 to 127) comes behind THE TAPE: how many it has").rows("feed(0) 1", "feed(127) 2", "feed(-1) BAD",
        "feed(128) BAD", "feed(LEAST) BAD", "feed(GREATEST) BAD", "feed(288) BAD", "count(2) 2").end();
    Run.of(2, "FULL: more than 160").rows("feed(32) 1").fed(" ".repeat(158)).rows("feed(32) 160", "feed(32) FULL",
        "feed(0) FULL", "feed(127) FULL", "end(159) 160", "feed(59) 160", "feed(59) FULL", "text() -169", "feed(59) 1").end();
    Run.of(3, "THE TAPE keeps its first n bytes: how many it had").fed("stay;step;").rows("end(11) BAD", "end(-1) BAD",
        "end(LEAST) BAD", "end(GREATEST) BAD", "end(10) 10", "end(5) 10", "end(6) BAD", "end(5) 5").fed("often;")
        .rows("text() 2", "shelf(0, 0) 0", "shelf(1, 0) 3", "end(0) 0", "end(1) BAD").end();
    Run.of(3, "no bytes are kept").fed("#").rows("end(0) 1", "end(0) 0", "text() 0", "fault() 0").end();
    Run.of(4, "THE TAPE (empty then)").fed("stay;").rows("text() 1", "count(2) 0", "text() 0", "rule(1) 0").fed("#;")
        .rows("text() -10", "count(2) 0", "fault() 1", "text() 0", "fault() 0").end();
    Run.of(5, "the FAULT of the latest text(); 0").rows("fault() 0").text("#", -10, 1).rows("fault() 1", "feed(32) 1", "fault() 1",
        "put(0) 1", "fault() 1", "end(0) 1").text("x", -10, 2).text("books 9;", -16, 3).text("books 1;books", -18, 4)
        .text("stay;stay;stay;stay;stay", -30, 5).text("want 5;", -17, 6).text("", 0, 0).rows("fault() 0").end();
  }

  private static void whatThereIs() {
    Run.of(6, "4 the WANT of this STEP (NONE)").told("want 2 0 1;").rows("rule(4) 0", "steps(2) 0", "rule(4) 2", "steps(1) 0",
        "rule(4) 0", "steps(1) 0", "drop(1) 3", "rule(4) 0", "drop(0) 1", "rule(4) NONE", "add(3) 1", "rule(4) 0").end();
    Run.of(6, "5 the SHELF of least COST, of several the first (NONE)").told("front;stay;stay;want 3;").rows("rule(5) 0",
        "steps(1) 13", "rule(5) 1", "steps(1) 9", "rule(5) 0", "cut(0) 3", "rule(5) NONE", "put(3) 1", "rule(5) 0").end();
    Run.of(6, "5 of several the first, the last two of four").told("stay;stay;front;front;want 3;").rows("steps(1) 18",
        "rule(5) 0", "steps(1) 10", "rule(5) 2").end();
    Run.of(7, "10 and p, 20 and b: BAD (also, if there is no such BOOK, PLACE)").told("books 2;front;").rows("take(1) 3",
        "shelf(0, 10) 1", "shelf(0, 11) 0", "shelf(0, 12) BAD", "shelf(0, 15) BAD", "shelf(0, 19) BAD", "shelf(0, 20) 0",
        "shelf(0, 21) 1", "shelf(0, 22) BAD", "shelf(0, 25) BAD", "shelf(0, 9) BAD", "shelf(0, 2) BAD", "shelf(1, 10) BAD").end();
    Run.of(8, "the PLACE of a BOOK on a SHELF. BAD").told("books 2;front;").rows("take(1) 3", "place(0, 1) 0", "place(0, 0) 1",
        "place(0, 2) BAD", "place(0, -1) BAD", "place(1, 0) BAD", "place(-1, 0) BAD", "cut(0) 1", "place(0, 0) BAD").end();
    Run.of(9, "a WANT. BAD").told("want 2 0;").rows("want(0) 2", "want(1) 0", "want(2) BAD", "want(-1) BAD", "drop(1) 2",
        "want(1) BAD", "want(0) 2", "drop(0) 1", "want(0) BAD").end();
  }

  private static void shelvesChanged() {
    Run.of(10, "KIND of a SHELF becomes v: what it was").told("often;stay;").rows("alter(1, 3) 0", "alter(1, 3) 3", "alter(1, 4) BAD",
        "alter(1, -1) BAD", "alter(2, 0) BAD", "alter(-1, 0) BAD", "shelf(1, 0) 3", "shelf(0, 0) 3", "alter(0, 0) 3",
        "alter(0, 1) 0", "alter(0, 2) 1", "cut(0) 2", "alter(0, 0) BAD").end();
    Run.of(11, "a SHELF more, as at first").told("books 3;front;").rows("take(2) 4", "cut(0) 1", "put(1) 1", "shelf(0, 0) 1",
        "shelf(0, 1) 0", "shelf(0, 10) 0", "shelf(0, 12) 2", "shelf(0, 22) 0", "put(0) 2", "put(0) 3", "put(0) 4", "put(0) FULL",
        "cut(3) 4", "put(2) 4").end();
    Run.of(12, "SHELVES are the first n alone: how many there were").told("front;often;step;").rows("take(3) 13", "cut(4) BAD",
        "cut(-1) BAD", "cut(3) 3", "cut(2) 3", "cut(3) BAD", "shelf(2, 0) BAD", "shelf(1, 0) 3", "shelf(1, 1) 4",
        "shelf(0, 1) 5", "cut(0) 2", "cut(0) 0", "cut(1) BAD", "rule(1) 0").end();
    Run.of(13, "a BOOK is at a PLACE of a SHELF by hand; those between move one PLACE: where it was").told("books 6;front;stay;")
        .rows("stand(0, 0, 5) 0", "place(0, 1) 0", "place(0, 5) 4", "place(0, 0) 5", "stand(0, 0, 0) 5", "place(0, 1) 1",
        "place(0, 5) 5", "stand(0, 5, 0) 5", "place(0, 0) 1", "place(0, 4) 5", "stand(0, 5, 5) 0", "stand(0, 3, 3) 3",
        "stand(0, 6, 0) BAD", "stand(0, 0, 6) BAD", "stand(0, -1, 0) BAD", "stand(0, 0, -1) BAD", "stand(2, 0, 0) BAD",
        "place(0, 0) 0", "place(0, 5) 5", "place(1, 0) 0", "shelf(0, 1) 0", "shelf(0, 20) 0", "stand(0, 1, 3) 1",
        "place(0, 0) 0", "place(0, 2) 1", "place(0, 3) 2", "place(0, 1) 3", "place(0, 4) 4").end();
    Run.of(13, "one BOOK alone").told("books 1;front;").rows("stand(0, 0, 0) 0", "stand(0, 0, 1) BAD", "stand(0, 1, 0) BAD").end();
  }

  private static void wantsChanged() {
    Run.of(14, "a WANT becomes a BOOK: what it was").told("want 2 0;").rows("set(0, 3) 2", "set(0, 3) 3", "set(1, 0) 0",
        "set(2, 0) BAD", "set(-1, 0) BAD", "set(0, 4) BAD", "set(0, -1) BAD", "want(0) 3", "want(1) 0", "drop(0) 2", "set(0, 0) BAD").end();
    Run.of(15, "a WANT more, behind all others: how many there are").told("want 2;").rows("add(0) 2", "add(3) 3", "add(4) BAD",
        "add(-1) BAD", "want(1) 0", "want(2) 3", "want(3) BAD").end();
    Run.of(16, "WANTS are the first n alone: how many there were").told("want 2 0 1;").rows("drop(4) BAD", "drop(-1) BAD", "drop(3) 3",
        "drop(1) 3", "drop(2) BAD", "want(0) 2", "want(1) BAD", "add(3) 2", "want(1) 3", "drop(0) 2", "drop(0) 0", "drop(1) BAD").end();
    Run.of(17, "a BOOK is ASKED for by hand: what all SHELVES PAY, summed").told("books 6;stay;step;front;often;").rows("take(0) 4",
        "take(5) 25", "take(6) BAD", "take(-1) BAD", "rule(3) 0", "count(4) 29", "cut(1) 4", "take(5) 6", "cut(0) 1", "take(5) 0").end();
  }

  private static void stepsEdges() {
    Run.of(18, "n STEPS (0 to 100): what is PAID by all in them").told("stay;front;want 3;").rows("steps(0) 0", "rule(3) 0",
        "steps(1) 9", "steps(100) 500", "rule(3) 101", "steps(101) BAD", "steps(-1) BAD", "steps(LEAST) BAD", "steps(GREATEST) BAD",
        "rule(3) 101", "count(4) 509").end();
    Run.of(18, "FULL: STEP would be 10000 or more").told("stay;want 0;").rows("steps(100) 100 x99", "steps(50) 50", "rule(3) 9950",
        "steps(50) FULL", "steps(100) FULL", "rule(3) 9950", "shelf(0, 1) 9950", "steps(49) 49", "rule(3) 9999", "steps(1) FULL",
        "steps(0) 0", "shelf(0, 1) 9999").end();
    // It is STEP that is full, whatever is ASKED for.
    Run.of(18, "FULL also with nothing there").rows("steps(100) 0 x99", "steps(99) 0", "steps(1) FULL", "keep(0) 0",
        "back(0) 9999", "text() 0", "rule(3) 0", "steps(1) 0").end();
    Run.of(18, "back() from the last STEP").told("stay;want 1;").rows("keep(1) 0", "steps(100) 200 x99", "steps(100) FULL",
        "back(1) 0", "steps(100) 200", "rule(3) 100").end();
  }

  private static void runsEdges() {
    // stay 4 4 4 .., front 5 1 1 ..
    Run.of(19, "BY STEPS, n of them (0 to 200): what is PAID by all (what 0)").told("stay;front;want 3;").rows("runs(0, 0) 0",
        "runs(1, 0) 9", "runs(200, 0) 1004", "runs(201, 0) BAD", "runs(-1, 0) BAD", "runs(0, 4) BAD", "runs(0, -1) BAD").end();
    Run.of(19, "the SHELF by which least is PAID, of several the first (1; NONE)").told("stay;front;stay;want 3;").rows("runs(0, 1) 0",
        "runs(1, 1) 0", "runs(2, 1) 1", "runs(200, 1) 1", "cut(0) 3", "runs(0, 1) NONE", "runs(200, 1) NONE", "runs(201, 1) BAD").end();
    Run.of(19, "least PAID from now on, not least COST").told("stay;front;want 3;").rows("steps(1) 9", "rule(5) 0", "runs(1, 1) 1").end();
    Run.of(19, "the most that any SHELF PAYS in any of them (2; 0)").told("books 6;stay;front;want 0 5;").rows("runs(0, 2) 0",
        "runs(1, 2) 1", "runs(2, 2) 7", "runs(200, 2) 7", "cut(0) 2", "runs(200, 2) 0", "put(0) 1", "drop(0) 2", "runs(200, 2) 0").end();
    Run.of(19, "how many times a BOOK comes to another PLACE by MOVING (not those between; 3)").told("stay;step;front;often;want 3;")
        .rows("runs(0, 3) 0", "runs(1, 3) 3", "runs(2, 3) 4", "runs(3, 3) 5", "runs(4, 3) 5", "runs(200, 3) 5").end();
    Run.of(20, "what is PAID by a SHELF in n of them (0 to 200)").told("stay;front;want 3;").rows("paid(1, 0) 0", "paid(1, 1) 5",
        "paid(1, 200) 204", "paid(0, 200) 800", "paid(0, 201) BAD", "paid(0, -1) BAD", "paid(2, 0) BAD", "paid(-1, 0) BAD",
        "shelf(0, 1) 0", "drop(0) 1", "paid(0, 200) 0").end();
    // After 200 STEPS of 3 WANTS it was the turn of the second one.
    Run.of(21, "which BOOK is at a PLACE of a SHELF behind n of them (0 to 200)").told("books 3;front;want 0 1 2;").rows("ahead(0, 0, 0) 0",
        "ahead(0, 1, 0) 0", "ahead(0, 2, 0) 1", "ahead(0, 199, 0) 0", "ahead(0, 200, 0) 1", "ahead(0, 200, 2) 2", "ahead(0, 201, 0) BAD",
        "ahead(0, -1, 0) BAD", "ahead(0, 0, 3) BAD", "ahead(0, 0, -1) BAD", "ahead(1, 0, 0) BAD", "place(0, 0) 0").end();
  }

  private static void whenAndAgain() {
    String when = "behind how many (0 to 200) a BOOK stands first on a SHELF first";
    Run.of(22, when).told("books 3;front;want 0 2;").rows("when(0, 0) 0", "when(0, 2) 2", "when(0, 1) NONE", "steps(1) 1", "when(0, 2) 1",
        "steps(1) 4", "when(0, 2) 0", "when(0, 0) 1", "when(0, 3) BAD", "when(0, -1) BAD", "when(1, 0) BAD", "drop(0) 2",
        "when(0, 2) 0", "when(0, 0) NONE").end();
    String again = "behind how many (1 to 200) all SHELVES have all BOOKS where they are now, and it is the turn of the same WANT";
    Run.of(23, again).told("stay;want 1;").rows("again() 1", "add(1) 2", "again() 2", "drop(0) 2", "again() 1", "cut(0) 1", "again() 1").end();
    Run.of(23, again).told("stay;front;want 1;").rows("again() NONE", "steps(1) 5", "again() 1", "add(0) 2", "again() 2",
        "steps(1) 4", "again() 2", "add(2) 3", "again() 3").end();
    Run.of(23, "not only the first BOOK").told("books 3;step;want 2;").rows("again() NONE", "steps(1) 3", "again() NONE", "steps(1) 2",
        "again() 1").end();
    roundsOf7(196, 27, "196");
    roundsOf7(203, 28, "NONE");
  }

  /** BOOK 0 gets back ahead of 1, that was ASKED for so many times more, by 1 in each round of 7 STEPS. */
  private static void roundsOf7(int steps, int times, String due) {
    Run.of(23, "all is again behind " + steps).told("books 3;stay;want 2;").rows("steps(96) 288", "take(1) 2 x" + times, "stand(0, 2, 0) 2",
        "alter(0, 3) 0", "drop(0) 1", "add(1) 1", "add(0) 2", "add(0) 3", "add(2) 4", "add(2) 5", "add(2) 6", "add(2) 7",
        "rule(4) 5", "steps(2) 2", "rule(4) 0", "again() " + due).end();
  }

  private static void orderEdges() {
    String now = "the order by which least is PAID in as many STEPS as there are WANTS, of several the first by its row (as numbers)";
    Run.of(24, now).told("books 6;stay;want 5 5 5 5 5 5 4 4 4 4 3 3 3 2 2 1;").rows("order(0, 0) 36", "order(0, 10) 5", "order(0, 11) 4",
        "order(0, 12) 3", "order(0, 13) 2", "order(0, 14) 1", "order(0, 15) 0", "order(0, 16) BAD").end();
    Run.of(24, now).told("books 6;stay;").rows("order(0, 0) 0", "order(0, 10) 0", "order(0, 15) 5", "stand(0, 5, 0) 5",
        "order(0, 10) 0", "order(0, 15) 5").end();
    Run.of(24, now).told("books 6;stay;want 3;").rows("order(0, 0) 1", "order(0, 10) 3", "order(0, 11) 0", "order(0, 15) 5").end();
    Run.of(24, now).told("books 1;front;want 0 0 0;").rows("order(0, 0) 3", "order(0, 10) 0", "order(0, 11) BAD").end();
    Run.of(24, now).told("books 2;stay;want 1 0;").rows("order(0, 0) 3", "order(0, 10) 0", "order(0, 11) 1", "order(0, 12) BAD").end();
    // 0 1: 1 2 2; 1 0: 2 2 2. What was ASKED while one row was tried does not count for the next one.
    Run.of(24, "each row from what is now").told("books 2;often;want 0 1 1;").rows("order(0, 0) 5", "order(0, 10) 0", "order(0, 11) 1").end();
    Run.of(24, "BAD (also PLACES that there are not)").told("books 3;stay;").rows("order(0, 13) BAD", "order(0, 9) BAD", "order(0, 1) BAD",
        "order(0, -1) BAD", "order(0, 20) BAD", "order(1, 0) BAD", "order(-1, 10) BAD", "order(0, 12) 2").end();
    // By STEP 1 the second WANT comes first, and as many STEPS as WANTS are looked at.
    Run.of(24, "STEPS from now on").told("books 3;front;want 1 2 2;").rows("steps(1) 3", "order(0, 0) 5", "order(0, 10) 2", "order(0, 11) 1").end();
  }

  private static void kindAndFirst() {
    Run.of(25, "of several the first (what 0), how much (1)").told("often;want 0;").rows("kind(0, 0, 0) 0", "kind(0, 0, 1) 0", "kind(0, 200, 0) 0",
        "kind(0, 200, 1) 200", "kind(0, 201, 0) BAD", "kind(0, -1, 0) BAD", "kind(0, 0, 2) BAD", "kind(0, 0, -1) BAD", "kind(1, 0, 0) BAD",
        "shelf(0, 0) 3").end();
    // stay 4 4 4 4, step 4 3 2 1, front 5 1 1 1, often 4 1 1 1.
    Run.of(25, "the KIND by which least is PAID").told("front;want 3;").rows("kind(0, 1, 0) 0", "kind(0, 2, 0) 3", "kind(0, 4, 1) 7",
        "drop(0) 1", "kind(0, 200, 0) 0", "kind(0, 200, 1) 0").end();
    // Behind 0 that was ASKED for often: stay 2 2 2, step 2 1 1, front 3 1 1, often 2 2 2.
    Run.of(25, "the second KIND").told("books 2;often;").rows("take(0) 1 x5", "add(1) 1", "kind(0, 3, 0) 1", "kind(0, 3, 1) 4").end();
    Run.of(26, "the BOOK that had better stand first, of several the first (what 0), how much (1)").told("books 6;stay;want 5;").rows(
        "first(0, 0, 0) 0", "first(0, 0, 1) 0", "first(0, 1, 0) 5", "first(0, 1, 1) 1", "first(0, 200, 1) 200", "first(0, 201, 0) BAD",
        "first(0, -1, 0) BAD", "first(0, 0, 2) BAD", "first(0, 0, -1) BAD", "first(1, 0, 0) BAD", "place(0, 5) 5",
        "drop(0) 1", "first(0, 200, 0) 0", "first(0, 200, 1) 0").end();
    // As by stand(): the one that stood first is second then.
    Run.of(26, "as by stand()").told("books 3;stay;want 2 0;").rows("first(0, 2, 0) 2", "first(0, 2, 1) 3", "stand(0, 0, 2) 0",
        "first(0, 2, 0) 0", "first(0, 2, 1) 4", "stand(0, 2, 0) 1", "first(0, 2, 0) 0", "first(0, 2, 1) 3").end();
    Run.of(26, "one BOOK alone").told("books 1;front;want 0;").rows("first(0, 200, 0) 0", "first(0, 200, 1) 200").end();
  }

  private static void swapEdges() {
    String now = "two WANTS that are to change places: 100 times the lesser and the greater, of several the least (what 0), how much (1)";
    Run.of(27, now).told("stay;want 3 0;").rows("swap(0, 0) NONE", "swap(0, 1) NONE", "swap(1, 0) 1", "swap(1, 1) 1", "swap(2, 0) NONE",
        "swap(3, 0) 1", "swap(3, 1) 6", "swap(199, 0) 1", "swap(199, 1) 496", "swap(200, 0) NONE", "swap(201, 0) BAD", "swap(-1, 0) BAD",
        "swap(0, 2) BAD", "swap(0, -1) BAD", "want(0) 3", "steps(1) 4", "swap(1, 0) NONE").end();
    Run.of(27, now).told("stay;want 0 0 0 0 0 0 0 0 0 0 0 0 0 0 3 0;").rows("swap(15, 0) 1415", "swap(15, 1) 15", "swap(14, 0) NONE",
        "swap(16, 0) NONE").end();
    Run.of(27, "of several the least").told("stay;want 3 3 0 0;").rows("swap(2, 0) 2", "swap(2, 1) 5", "swap(3, 0) 3", "swap(3, 1) 6").end();
    // Only the second one is ASKED for in that STEP: to change the first one helps nothing.
    Run.of(27, "the last two of three").told("stay;want 3 3 0;").rows("steps(1) 4", "swap(1, 0) 102", "swap(1, 1) 1", "swap(3, 0) NONE").end();
    Run.of(27, "NONE: by none (less than as it is)").told("stay;want 1 1 1;").rows("swap(2, 0) NONE", "swap(2, 1) NONE", "drop(1) 3",
        "swap(1, 0) NONE", "drop(0) 1", "swap(1, 0) NONE", "cut(0) 1", "add(3) 1", "add(0) 2", "swap(1, 0) NONE").end();
  }

  private static void loseEdges() {
    String now = "the WANT that had better not be ASKED for (nothing in its STEPS), of several the first (what 0), how much (1)";
    Run.of(28, now).told("stay;want 0 3 3;").rows("lose(0, 0) NONE", "lose(0, 1) NONE", "lose(1, 0) 0", "lose(1, 1) 0", "lose(2, 0) 1",
        "lose(2, 1) 1", "lose(3, 0) 1", "lose(3, 1) 5", "lose(6, 1) 10", "lose(200, 0) 1", "lose(200, 1) 331", "lose(201, 0) BAD",
        "lose(-1, 0) BAD", "lose(0, 2) BAD", "lose(0, -1) BAD", "rule(2) 3", "want(1) 3").end();
    // As it is 4 4 4; without 2 nothing, 3, nothing; without 1 it is 4, nothing, 1.
    Run.of(28, "its STEPS stay").told("books 3;front;want 2 1;").rows("lose(1, 0) 0", "lose(2, 0) 0", "lose(2, 1) 3", "lose(3, 0) 0",
        "lose(3, 1) 3", "lose(4, 1) 4").end();
    Run.of(28, "NONE: none").told("want 3 2;").rows("lose(200, 0) NONE", "lose(200, 1) NONE", "put(0) 1", "lose(200, 1) 300", "drop(0) 2",
        "lose(200, 0) NONE").end();
    Run.of(28, "the 16th").told("stay;want 0 0 0 0 0 0 0 0 0 0 0 0 0 0 0 3;").rows("lose(15, 0) 0", "lose(16, 0) 15", "lose(16, 1) 15").end();
    // Without 1 the row 0 1 stays: 1 . 1 .; without 0: . 3 . 1.
    Run.of(28, "less may be PAID for the others").told("books 2;front;want 0 1;").rows("lose(4, 0) 1", "lose(4, 1) 2").end();
    // As it is: stay 4; nothing else could be less than nothing.
    Run.of(28, "less than as it is").told("stay;want 3 3;").rows("lose(1, 0) 0", "lose(1, 1) 0", "steps(1) 4", "lose(1, 0) 1").end();
  }

  private static void oddsEdges() {
    Run.of(29, "n STEPS (0 to 8), v out of ten (0 to 10)").told("books 2;front;want 1;").rows("luck(-1, 0, 0, 0, 0) BAD", "luck(11, 0, 0, 0, 0) BAD",
        "luck(0, 0, 0, -1, 0) BAD", "luck(0, 0, 0, 9, 0) BAD", "luck(0, 0, 2, 0, 0) BAD", "luck(0, 0, -1, 0, 0) BAD", "luck(0, 1, 0, 0, 0) BAD",
        "luck(0, -1, 0, 0, 0) BAD", "luck(0, 0, 0, 0, 2) BAD", "luck(0, 0, 0, 0, -1) BAD", "luck(0, 0, 0, 0, 0) 1", "luck(0, 0, 0, 0, 1) 1",
        "luck(10, 0, 1, 0, 0) 0", "luck(10, 0, 1, 0, 1) 1", "luck(9, 0, 0, 8, 0) 43046721", "luck(9, 0, 0, 8, 1) 100000000",
        "luck(1, 0, 0, 8, 0) 1", "luck(1, 0, 0, 8, 1) 100000000", "luck(0, 0, 1, 8, 0) 1", "luck(10, 0, 0, 8, 0) 1", "rule(3) 0", "place(0, 1) 1").end();
    // STEPS go on when nothing is ASKED for: in the second one it is the turn of 2, never of 1.
    Run.of(29, "nothing is ASKED for, by itself").told("books 3;front;want 1 2;").rows("luck(5, 0, 2, 2, 0) 1", "luck(5, 0, 2, 2, 1) 2",
        "luck(5, 0, 1, 2, 0) 1", "luck(5, 0, 1, 2, 1) 4", "luck(5, 0, 0, 2, 0) 1", "luck(5, 0, 0, 2, 1) 4", "luck(5, 0, 2, 1, 0) 0",
        "luck(5, 0, 2, 1, 1) 1").end();
    Run.of(29, "no WANTS").told("front;").rows("luck(0, 0, 0, 8, 0) 1", "luck(0, 0, 3, 8, 0) 0", "luck(0, 0, 3, 8, 1) 1").end();
    Run.of(30, "the mean of what is PAID by all in them").told("books 6;stay;front;step;often;want 5;").rows("mean(-1, 0, 0) BAD", "mean(11, 0, 0) BAD",
        "mean(0, -1, 0) BAD", "mean(0, 9, 0) BAD", "mean(0, 0, 2) BAD", "mean(0, 0, -1) BAD", "mean(0, 0, 0) 0", "mean(0, 0, 1) 1",
        "mean(0, 1, 0) 25", "mean(0, 8, 0) 98", "mean(0, 8, 1) 1", "mean(10, 8, 0) 0", "mean(10, 8, 1) 1", "mean(9, 1, 0) 5", "mean(9, 1, 1) 2",
        "mean(1, 1, 0) 45", "mean(1, 1, 1) 2", "count(4) 0", "rule(3) 0", "cut(0) 4", "mean(0, 8, 0) 0", "mean(0, 8, 1) 1").end();
  }

  private static void seenEdges() {
    Run.of(32, "SEEN are the first n alone: how many there were").told("books 3;front;want 2;").rows("forget(0) 0", "forget(1) BAD",
        "forget(-1) BAD", "see(0, 0, 0) 1", "see(0, 0, 1) 2", "forget(3) BAD", "kinds(0) 0", "forget(2) 2", "forget(1) 2", "kinds(0) 15",
        "forget(2) BAD", "forget(0) 1", "count(0) 0", "kinds(0) 15").end();
    Run.of(33, "KINDS of a SHELF (bits); BAD").told("books 3;stay;want 2;").rows("kinds(-1) BAD", "kinds(1) BAD", "kinds(0) 15",
        "see(1, 0, 2) 1", "kinds(0) 12", "forget(0) 1", "see(0, 0, 1) 1", "kinds(0) 0", "shelf(0, 0) 0").end();
    Run.of(33, "what is SEEN of a SHELF that is there no more is never so").told("stay;stay;stay;stay;want 0;").rows("see(0, 3, 0) 1",
        "kinds(0) 15", "books(0) 15", "cut(3) 4", "kinds(0) 0", "kinds(2) 0", "books(0) 0", "ask(0, 0) NONE", "put(1) 4", "kinds(0) 15",
        "cut(0) 4", "books(0) 0", "count(0) 1", "kinds(0) BAD").end();
    Run.of(33, "also behind the last STEP that can be SEEN").told("stay;stay;want 0;").rows("see(40, 1, 0) 1", "kinds(0) 15", "cut(1) 2",
        "kinds(0) 0", "books(0) 0").end();
    Run.of(34, "BOOKS (bits) that a WANT may be; BAD").told("books 6;front;want 0 1;").rows("books(-1) BAD", "books(2) BAD", "books(1) 63",
        "see(1, 0, 5) 1", "books(0) 32", "books(1) 0", "forget(0) 1", "see(40, 0, 5) 1", "books(1) 32", "books(0) 0", "want(0) 0").end();
    Run.of(34, "one BOOK alone").told("books 1;front;want 0;").rows("books(0) 1", "see(40, 0, 0) 1", "books(0) 1", "ask(0, 0) NONE").end();
    Run.of(31, "from now on").told("books 3;front;want 2 1;").rows("see(1, 0, 2) 1", "kinds(0) 12", "steps(1) 4", "kinds(0) 11",
        "steps(1) 4", "kinds(0) 14", "drop(0) 2", "kinds(0) 0", "stand(0, 2, 0) 1", "kinds(0) 15").end();
  }

  private static void askEdges() {
    String now = "fewest are left at the worst, fewer than now: 10 times the STEPS and the SHELF, of several the least (what 0), how many (1)";
    Run.of(35, now).told("front;front;front;front;want 1;").rows("ask(0, 0) 10", "ask(0, 1) 1", "ask(1, 0) BAD", "ask(-1, 0) BAD",
        "ask(0, 2) BAD", "ask(0, -1) BAD").end();
    Run.of(35, now).told("stay;stay;stay;front;want 1;").rows("ask(0, 0) 13", "ask(0, 1) 1").end();
    // step tells 1 from the others at once, front tells them all apart: fewest count, then the least.
    Run.of(35, now).told("books 3;step;front;want 1;").rows("ask(0, 0) 11", "ask(0, 1) 1").end();
    Run.of(35, now).told("books 6;step;want 1;").rows("ask(0, 0) 50", "ask(0, 1) 1", "see(2, 0, 0) 1", "books(0) 57", "ask(0, 0) 50", "ask(0, 1) 1").end();
    // In the third round 1, 2 and 3 stand first, if they are the WANT; 0, 4 and 5 are left by 0.
    Run.of(35, now).told("books 6;step;want 0 0 0 0 0 0 0 0 0 0 0 0 0 0 0 0;").rows("ask(0, 0) 330", "ask(0, 1) 3", "ask(8, 0) 250", "ask(8, 1) 4").end();
    Run.of(35, "NONE: none").told("books 3;stay;want 1;").rows("ask(0, 0) NONE", "ask(0, 1) NONE", "cut(0) 1", "ask(0, 0) NONE", "put(2) 1",
        "ask(0, 0) 10", "see(1, 0, 2) 1", "books(0) 4", "ask(0, 0) NONE", "see(0, 0, 1) 2", "books(0) 0", "ask(0, 0) NONE", "ask(0, 1) NONE").end();
    Run.of(35, "also when no more can be SEEN").told("books 3;front;want 1;").rows("see(0, 0, 0) 1", "see(0, 0, 0) 2", "see(0, 0, 0) 3",
        "see(0, 0, 0) 4", "see(0, 0, 0) 5", "see(0, 0, 0) 6", "ask(0, 0) 10", "ask(0, 1) 1", "count(0) 6").end();
    Run.of(35, "the turn of the last of 16").told("front;want 0 0 0 0 0 0 0 0 0 0 0 0 0 0 0 0;").rows("ask(15, 0) 160", "steps(1) 1",
        "ask(0, 0) 160", "ask(1, 0) 10", "ask(15, 0) 150").end();
  }

  private static void driftEdges() {
    String now = "n times (1 to 200) by a seed: the seed becomes seed times 1103515245 and 12345";
    Run.of(36, now).told("books 6;stay;").rows("drift(0, 0, 0) BAD", "drift(0, -1, 0) BAD", "drift(0, 201, 0) BAD", "drift(0, 1, 2) BAD",
        "drift(0, 1, -1) BAD", "drift(0, 1, 0) 1", "drift(0, 3, 0) 7", "drift(-1, 3, 0) 17", "drift(GREATEST, 3, 0) 17", "drift(LEAST, 3, 0) 7",
        "drift(0, 200, 0) 684", "drift(-1, 200, 0) 716", "drift(GREATEST, 200, 0) 716", "drift(LEAST, 200, 0) 684", "drift(LEAST, 200, 1) 0",
        "count(4) 0", "rule(3) 0").end();
    Run.of(36, now).told("stay;").rows("drift(0, 200, 0) 484", "drift(-1, 200, 0) 488", "drift(-1, 1, 0) 2").end();
    Run.of(36, now).told("books 1;front;").rows("drift(0, 200, 0) 200", "drift(GREATEST, 200, 0) 200").end();
    Run.of(36, "the SHELF by which least is PAID, of several the first (1)").told("books 6;front;stay;stay;step;").rows("drift(-1, 1, 1) 1",
        "drift(0, 1, 1) 0", "drift(-1, 2, 1) 0", "drift(-1, 2, 0) 43").end();
    Run.of(36, "STATE: there are no SHELVES").told("stay;want 1;").rows("drift(1, 1, 0) 3", "cut(0) 1", "drift(1, 1, 0) STATE",
        "drift(1, 200, 1) STATE", "put(0) 1", "drift(1, 1, 0) 3", "drop(0) 1", "drift(1, 1, 0) 3").end();
  }

  private static void imageEdges() {
    Run.of(37, "IMAGE k (0, 1): whether there was one (1, 0)").rows("keep(0) 0", "keep(0) 1", "keep(1) 0", "keep(1) 1", "keep(2) BAD", "keep(-1) BAD",
        "count(1) 2", "put(0) 1", "back(0) 0", "rule(1) 0").end();
    Run.of(37, "BOOKS, SHELVES (all of them), WANTS, STEP").told("books 6;stay;step;front;often;want 5 0 5;").rows("steps(4) 59", "keep(0) 0", "cut(0) 4",
        "drop(0) 3", "steps(9) 0", "back(0) 4", "rule(0) 6", "rule(1) 4", "rule(2) 3", "rule(4) 1", "want(2) 5", "shelf(0, 0) 0", "shelf(1, 0) 1", "shelf(2, 0) 2",
        "shelf(3, 0) 3", "place(1, 5) 2", "place(2, 5) 0", "place(3, 5) 0", "shelf(0, 25) 3", "shelf(3, 20) 1", "shelf(0, 1) 19", "count(4) 59").end();
    Run.of(37, "an IMAGE does not change with what there is").told("front;want 3;").rows("keep(0) 0", "steps(1) 5", "keep(1) 0", "alter(0, 0) 2", "set(0, 1) 3",
        "back(0) 0", "shelf(0, 0) 2", "want(0) 3", "place(0, 3) 3", "steps(3) 7", "set(0, 2) 3", "back(0) 0", "place(0, 3) 3", "want(0) 3",
        "back(1) 1", "place(0, 3) 0", "shelf(0, 1) 5").end();
    Run.of(38, "all is as IMAGE k: STEP. BAD; STATE: there is none").told("stay;").rows("back(0) STATE", "back(1) STATE", "back(2) BAD", "back(-1) BAD",
        "steps(7) 0", "keep(1) 0", "back(0) STATE", "steps(1) 0", "back(1) 7", "back(1) 7", "rule(3) 7").end();
    // What is SEEN, THE TAPE and SHEETS are in no IMAGE.
    Run.of(38, "BOOKS, SHELVES, WANTS, STEP alone").told("stay;want 1;").rows("keep(0) 0", "see(0, 0, 0) 1", "feed(59) 1", "sheet(0, 0, 2) 1",
        "read(0, 1, 0, 1) 0", "back(0) 0", "count(0) 1", "count(2) 1", "count(3) 2", "torn() 3", "count(1) 1").end();
    Run.of(38, "IMAGES are gone with a text that is taken").rows("keep(0) 0").text("#", -10, 1).rows("back(0) 0").text("", 0, 0).rows("back(0) STATE",
        "keep(0) 0").end();
  }

  private static void layEdges() {
    String now = "CELL i of a SHEET becomes v (its lowest bits)";
    lowestBits(0, new int[] {3, 259, -253, 65539, Integer.MIN_VALUE + 3}, new int[] {255, 128, -1, 4, 260, Integer.MAX_VALUE, 127});
    lowestBits(1, new int[] {3, 65539, -65533, Integer.MIN_VALUE + 3}, new int[] {259, 255, 65535, 32768, -1, 4, 65540, Integer.MAX_VALUE, -253});
    lowestBits(2, new int[] {3}, new int[] {259, 65539, -65533, Integer.MIN_VALUE, Integer.MIN_VALUE + 3, Integer.MAX_VALUE, -1, 4});
    Run.of(40, now).rows("sheet(2, 1, 3) 1", "lay(2, 0, 1) 1", "lay(2, 2, 3) 1", "lay(2, 3, 1) -12", "lay(2, -1, 1) -12", "lay(2, LEAST, 1) -12",
        "lay(2, GREATEST, 1) -12", "read(2, 1, 0, 3) 3", "want(0) 1", "want(1) 0", "want(2) 3", "lay(2, 2, 2) 1", "want(2) 3").end();
    Run.of(40, "BAD: k; -10 less the FAULT: NULL, INDEX").rows("lay(-1, 0, 0) BAD", "lay(4, 0, 0) BAD", "lay(1, 0, 0) -11", "lay(1, 40, 0) -11",
        "sheet(1, 0, 0) 1", "lay(1, 0, 0) -12", "torn() 0").end();
  }

  private static void lowestBits(int lane, int[] threes, int[] none) {
    Run run = Run.of(40, "lowest bits of lane " + lane).rows("sheet(0, " + lane + ", 1) 1");
    for (int v : threes) {
      run.rows("lay(0, 0, " + v + ") 1", "read(0, " + lane + ", 0, 1) 1", "want(0) 3", "drop(0) 1");
    }
    for (int v : none) {
      run.rows("lay(0, 0, " + v + ") 1", "read(0, " + lane + ", 0, 1) -20", "rule(2) 0");
    }
    run.end();
  }

  private static void readEdges() {
    String now = "n (0 to 40) BOOKS are read of a SHEET, a CELL each from CELL f on: how many came";
    Run.of(41, now).rows("sheet(0, 0, 40) 1", "lay(0, 15, 3) 1", "read(0, 0, 0, 0) 0", "read(0, 0, 0, 40) -36", "read(0, 0, 0, 17) -36", "rule(2) 0",
        "read(0, 0, 0, 16) 16", "want(15) 3", "read(0, 0, 0, 0) 0", "read(0, 0, 0, 1) -20", "read(0, 0, 39, 40) -20", "drop(0) 16", "read(0, 0, 0, 41) BAD",
        "read(0, 0, 0, -1) BAD", "read(4, 0, 0, 0) BAD", "read(-1, 0, 0, 0) BAD", "read(0, 3, 0, 0) BAD", "read(0, -1, 0, 0) BAD", "rule(2) 0").end();
    Run.of(41, "what the machine refuses: those ahead came").rows("sheet(0, 0, 40) 1", "read(0, 0, 24, 17) 16", "torn() 2", "rule(2) 16", "drop(0) 16",
        "read(0, 0, 23, 18) -36", "rule(2) 0", "torn() 2", "read(0, 0, 39, 40) 1", "read(0, 0, 40, 40) 0", "read(0, 0, -1, 40) 0", "read(0, 0, LEAST, 40) 0",
        "read(0, 0, GREATEST, 40) 0", "torn() 2", "rule(2) 1").end();
    // From f up to the greatest int and round to the least one: never to CELL 0.
    Run.of(41, "no way round").rows("sheet(0, 2, 40) 1", "read(0, 2, GREATEST, 2) 0", "torn() 2", "read(0, 2, -2, 10) 0", "torn() 2", "rule(2) 0").end();
    Run.of(41, "the i-th is refused by add() (in either way): then none came").told("books 2;want 1;").rows("sheet(3, 1, 20) 1", "lay(3, 2, 2) 1",
        "read(3, 1, 0, 3) -22", "rule(2) 1", "read(3, 1, 2, 1) -20", "read(3, 1, 0, 2) 2", "drop(1) 3", "lay(3, 2, -1) 1", "read(3, 1, 1, 5) -21",
        "lay(3, 2, 1) 1", "read(3, 1, 0, 20) -35", "rule(2) 1", "read(3, 1, 0, 15) 15", "read(3, 1, 0, 1) -20", "rule(2) 16").end();
    // The CELL that is met first: no BOOK at 3, the end at 4.
    Run.of(41, "the first met").rows("sheet(1, 2, 4) 1", "lay(1, 3, 4) 1", "read(1, 2, 2, 3) -21", "rule(2) 0", "lay(1, 3, 3) 1", "read(1, 2, 2, 3) 2",
        "torn() 2", "rule(2) 2").end();
    Run.of(41, "NULL, CAST ahead of INDEX and of add()").told("want 0 0 0 0 0 0 0 0 0 0 0 0 0 0 0 0;").rows("read(2, 0, 50, 1) 0", "torn() 1", "sheet(2, 0, 1) 1",
        "read(2, 1, 50, 1) 0", "torn() 3", "read(2, 2, 0, 1) 0", "torn() 3", "read(2, 0, 1, 1) 0", "torn() 2", "read(2, 0, 0, 1) -20", "torn() 2").end();
    Run.of(41, "a SHEET of no CELLS").rows("sheet(0, 1, 0) 1", "read(0, 1, 0, 1) 0", "torn() 2", "read(0, 1, 0, 0) 0", "torn() 0").end();
  }

  private static void tornEdges() {
    Run.of(42, "the FAULT of the latest read() that came to an end; 0").rows("torn() 0", "read(0, 0, 0, 1) 0", "torn() 1", "sheet(0, 0, 2) 1", "torn() 1",
        "lay(0, 2, 0) -12", "torn() 1", "read(0, 0, 0, 41) BAD", "torn() 1", "lay(0, 0, 9) 1", "read(0, 0, 0, 1) -20", "torn() 1", "sheet(0, 0, -1) -14",
        "torn() 1", "read(0, 1, 1, 1) 0", "torn() 3", "read(0, 0, 1, 2) 1", "torn() 2", "read(0, 0, 1, 1) 1", "torn() 0", "read(0, 0, 2, 1) 0", "torn() 2",
        "text() 0", "torn() 2", "keep(0) 0", "back(0) 0", "torn() 2", "read(0, 0, 0, 0) 0", "torn() 0").end();
  }

  private static void countEdges() {
    Run.of(43, "0 SEEN, 1 IMAGES").told("stay;").rows("count(0) 0", "see(40, 0, 3) 1", "count(0) 1", "forget(0) 1", "count(0) 0", "count(1) 0", "keep(1) 0", "count(1) 1",
        "keep(1) 1", "count(1) 1", "keep(0) 0", "count(1) 2", "back(0) 0", "count(1) 2").end();
    Run.of(43, "2 bytes on THE TAPE").rows("count(2) 0").fed(" ".repeat(160)).rows("count(2) 160", "feed(32) FULL", "count(2) 160", "end(1) 160", "count(2) 1", "text() 0",
        "count(2) 0").end();
    Run.of(43, "3 CELLS of SHEET 0 (NONE: nothing)").rows("count(3) NONE", "sheet(1, 0, 4) 1", "sheet(0, 0, -1) -14", "sheet(0, 0, 41) BAD", "count(3) NONE",
        "sheet(0, 2, 0) 1", "count(3) 0", "sheet(0, 1, 40) 1", "count(3) 40", "text() 0", "count(3) 40").end();
    Run.of(43, "4 COST of all SHELVES").told("books 6;front;front;front;front;").rows("count(4) 0", "take(5) 28", "count(4) 28", "cut(3) 4", "count(4) 21", "cut(0) 3",
        "count(4) 0").end();
    Run.of(43, "5 WANTS as numbers, summed").told("books 6;want 5 5 5 5 5 5 5 5 5 5 5 5 5 5 5 5;").rows("count(5) 80", "set(0, 0) 5", "count(5) 75", "drop(1) 16",
        "count(5) 0", "drop(0) 1", "count(5) 0", "count(6) BAD", "count(-1) BAD").end();
  }
}
