/** The sentences of the part "Terms" that name a bound, each with a run of its own. */
public final class TermsTest {
  private static final String SIXTEEN = "want 0 0 0 0 0 0 0 0 0 0 0 0 0 0 0 0";

  public static void main(String[] args) {
    theFirstThatFits();
    fractions();
    books();
    shelves();
    places();
    asked();
    cost();
    wants();
    step();
    pays();
    moves();
    tape();
    tokens();
    lines();
    faultOne();
    faultTwo();
    faultThree();
    faultFour();
    faultFive();
    faultSix();
    theFirstMet();
    aTextTellsAll();
    aStep();
    seen();
    sheets();
    Due.end();
  }

  private static void theFirstThatFits() {
    String now = "the first that fits";
    Run.of(2, now).fed(" ".repeat(160)).rows("feed(128) BAD", "feed(-1) BAD", "feed(127) FULL").end();
    Run.of(11, now).told("stay;stay;stay;stay;").rows("put(4) BAD", "put(-1) BAD", "put(3) FULL").end();
    Run.of(15, now).told("books 3;" + SIXTEEN + ";").rows("add(3) BAD", "add(-1) BAD", "add(2) FULL").end();
    Run.of(18, now).rows("steps(100) 0 x99", "steps(101) BAD", "steps(-1) BAD", "steps(100) FULL").end();
    Run.of(31, now).told("books 3;stay;").rows("see(0, 0, 0) 1", "see(0, 0, 0) 2", "see(0, 0, 0) 3",
        "see(0, 0, 0) 4", "see(0, 0, 0) 5", "see(0, 0, 0) 6", "see(41, 0, 0) BAD", "see(-1, 0, 0) BAD",
        "see(0, 1, 0) BAD", "see(0, 0, 3) BAD", "see(0, 0, 2) FULL").end();
    Run.of(36, now).rows("drift(0, 0, 0) BAD", "drift(0, 201, 0) BAD", "drift(0, 1, 2) BAD", "drift(0, 1, -1) BAD",
        "drift(0, 1, 0) STATE", "drift(0, 200, 1) STATE").end();
    Run.of(38, now).rows("back(-1) BAD", "back(2) BAD", "back(0) STATE", "back(1) STATE").end();
    Run.of(27, now).told("stay;").rows("swap(201, 0) BAD", "swap(0, 2) BAD", "swap(200, 1) NONE").end();
    Run.of(28, now).told("stay;").rows("lose(201, 0) BAD", "lose(0, 2) BAD", "lose(200, 1) NONE").end();
    Run.of(35, now).told("stay;want 1;").rows("ask(1, 0) BAD", "ask(0, 2) BAD", "ask(0, 1) NONE").end();
    Run.of(22, now).told("stay;want 1;").rows("when(1, 0) BAD", "when(0, 4) BAD", "when(0, 3) NONE").end();
    Run.of(39, now).rows("sheet(4, 0, -1) BAD", "sheet(0, 3, -1) BAD", "sheet(0, 0, -1) -14").end();
    Run.of(40, now).rows("lay(4, -1, 0) BAD", "lay(0, -1, 0) -11", "sheet(0, 0, 0) 1", "lay(0, -1, 0) -12").end();
  }

  private static void fractions() {
    String now = "fractions are in lowest terms, the denominator above 0 (0 is 0 by 1)";
    Run.of(29, now).told("books 2;front;want 1;").rows(
        "luck(2, 0, 0, 1, 0) 1", "luck(2, 0, 0, 1, 1) 5",
        "luck(8, 0, 1, 1, 0) 1", "luck(8, 0, 1, 1, 1) 5",
        "luck(5, 0, 1, 1, 0) 1", "luck(5, 0, 1, 1, 1) 2",
        "luck(3, 0, 0, 1, 0) 3", "luck(3, 0, 0, 1, 1) 10",
        "luck(0, 0, 0, 1, 0) 0", "luck(0, 0, 0, 1, 1) 1",
        "luck(10, 0, 1, 8, 0) 0", "luck(10, 0, 1, 8, 1) 1",
        "luck(10, 0, 0, 8, 0) 1", "luck(10, 0, 0, 8, 1) 1",
        "luck(6, 0, 0, 8, 0) 6561", "luck(6, 0, 0, 8, 1) 390625").end();
    // One STEP: 3 from the second PLACE by (10 - v) out of ten.
    Run.of(30, now).told("books 2;front;want 1;").rows(
        "mean(0, 1, 0) 3", "mean(0, 1, 1) 1",
        "mean(5, 1, 0) 3", "mean(5, 1, 1) 2",
        "mean(8, 1, 0) 3", "mean(8, 1, 1) 5",
        "mean(10, 8, 0) 0", "mean(10, 8, 1) 1",
        "mean(7, 0, 0) 0", "mean(7, 0, 1) 1").end();
  }

  private static void books() {
    String now = "BOOKS 0 on, as many as told (1 to 6; 4 at first)";
    Run.of(1, now).rows("rule(0) 4", "put(0) 1").end();
    for (int n = 1; n <= 6; n++) {
      noBookBeyond(Run.of(1, now).told("books " + n + ";stay;want 0;").rows("rule(0) " + n), n);
      noBookBeyond(Run.of(1, now).told("stay;want 0;books 0" + n + ";").rows("rule(0) " + n), n);
    }
    noBookBeyond(Run.of(1, now).told("stay;want 0;").rows("rule(0) 4"), 4);
    Run.of(4, now).text("books 0;", -16, 3).rows("rule(0) 4").end();
    Run.of(4, now).text("books 00;", -16, 3).rows("rule(0) 4").end();
    Run.of(4, now).text("books 7;", -16, 3).rows("rule(0) 4").end();
    Run.of(4, now).told("books 2;").text("books 10;", -16, 3).rows("rule(0) 2").text("", 0, 0).rows("rule(0) 4").end();
  }

  /** The last BOOK and PLACE is there for every call, the next one for none. */
  private static void noBookBeyond(Run run, int n) {
    for (int b = n - 1; b <= n; b++) {
      String due = b < n ? " " + b : " BAD";
      run.rows("place(0, " + b + ")" + due, "shelf(0, " + (10 + b) + ")" + due,
          "shelf(0, " + (20 + b) + ")" + (b < n ? " 0" : " BAD"),
          "stand(0, " + b + ", " + b + ")" + due, "stand(0, 0, " + b + ")" + (b < n ? " 0" : " BAD"),
          "stand(0, 0, 0)" + (b < n ? " " + b : " 0"), "ahead(0, 200, " + b + ")" + due,
          "order(0, " + (10 + b) + ")" + due, "luck(10, 0, " + b + ", 8, 1)" + (b < n ? " 1" : " BAD"),
          "when(0, " + b + ")" + (b == 0 ? " 0" : b < n ? " NONE" : " BAD"),
          "take(" + b + ")" + (b < n ? " " + n : " BAD"), "set(0, " + b + ")" + (b < n ? " 0" : " BAD"),
          "set(0, 0)" + due.replace("BAD", "0"), "add(" + b + ")" + (b < n ? " 2" : " BAD"), "drop(1)" + (b < n ? " 2" : " 1"),
          "see(0, 0, " + b + ")" + (b < n ? " 1" : " BAD"));
    }
    run.end();
  }

  private static void shelves() {
    String now = "SHELVES (4 at most), by order, each of a KIND (0 stay, 1 step, 2 front, 3 often)";
    Run.of(11, now).rows("rule(1) 0", "put(3) 1", "put(2) 2", "put(1) 3", "put(0) 4", "put(0) FULL", "rule(1) 4",
        "shelf(0, 0) 3", "shelf(1, 0) 2", "shelf(2, 0) 1", "shelf(3, 0) 0", "shelf(4, 0) BAD",
        "cut(3) 4", "put(2) 4", "shelf(3, 0) 2", "put(1) FULL").end();
    Run.of(4, now).told("front;often;stay;step;").rows("rule(1) 4", "shelf(0, 0) 2", "shelf(1, 0) 3",
        "shelf(2, 0) 0", "shelf(3, 0) 1", "put(0) FULL").end();
    Run.of(4, now).told("front;often;stay;").rows("put(0) 4", "put(0) FULL").end();
    Run.of(11, now).rows("put(-1) BAD", "put(4) BAD", "put(LEAST) BAD", "put(GREATEST) BAD", "rule(1) 0").end();
    Run.of(10, now).told("often;").rows("alter(0, 4) BAD", "alter(0, -1) BAD", "shelf(0, 0) 3", "alter(0, 0) 3",
        "alter(0, 3) 0", "alter(0, 3) 3").end();
    all4ShelvesAreAsked();
  }

  /** Every question that goes over all SHELVES, with as many as there can be: 3 from the last PLACE. */
  private static void all4ShelvesAreAsked() {
    // stay 4 4 4, step 4 3 2, front 5 1 1, often 4 1 1.
    Run.of(11, "4 SHELVES are asked").told("stay;step;front;often;want 3;").rows(
        "runs(3, 0) 34", "runs(3, 1) 3", "runs(3, 2) 5", "runs(3, 3) 5", "again() NONE", "rule(5) 0",
        "swap(3, 0) NONE", "lose(3, 0) 0", "lose(3, 1) 0", "mean(0, 3, 0) 34", "drift(1, 1, 0) 13", "drift(1, 1, 1) 0",
        "kinds(3) 15", "books(0) 15", "ask(0, 0) 12", "ask(0, 1) 1", "see(1, 3, 3) 1", "kinds(3) 12", "books(0) 8",
        "ask(0, 0) NONE", "take(3) 17", "count(4) 17", "rule(5) 0", "keep(0) 0", "cut(0) 4", "back(0) 0", "count(4) 17").end();
    // What the fourth alone does is not missed: often, then front.
    Run.of(19, "the fourth counts").told("stay;stay;stay;front;want 3;").rows("runs(1, 2) 5", "runs(1, 3) 1",
        "runs(2, 1) 3", "again() NONE", "ask(0, 0) 13", "drift(1, 1, 0) 13", "shelf(3, 1) 0", "steps(1) 17",
        "shelf(3, 1) 5", "rule(5) 0", "steps(1) 13", "rule(5) 3").end();
  }

  private static void places() {
    String now = "each at a PLACE (0: the first one; at first 0 on, by their numbers)";
    Run run = Run.of(8, now).told("books 6;front;");
    Run put = Run.of(11, now).told("books 6;").rows("put(2) 1");
    for (int b = 0; b < 6; b++) {
      run.rows("place(0, " + b + ") " + b, "shelf(0, " + (10 + b) + ") " + b, "shelf(0, " + (20 + b) + ") 0");
      put.rows("place(0, " + b + ") " + b, "shelf(0, " + (10 + b) + ") " + b, "shelf(0, " + (20 + b) + ") 0");
    }
    run.rows("shelf(0, 1) 0", "when(0, 0) 0").end();
    put.rows("shelf(0, 1) 0", "when(0, 0) 0").end();
  }

  private static void asked() {
    String now = "ASKED so many times (0 to 99; 0 at first)";
    Run.of(17, now).told("books 2;stay;").rows("shelf(0, 20) 0", "take(0) 1", "shelf(0, 20) 1", "take(0) 1 x97",
        "shelf(0, 20) 98", "take(0) 1", "shelf(0, 20) 99", "take(0) 1", "shelf(0, 20) 99", "shelf(0, 21) 0").end();
    Run.of(18, now).told("books 2;stay;want 0;").rows("steps(99) 99", "shelf(0, 20) 99", "steps(100) 100",
        "shelf(0, 20) 99", "shelf(0, 1) 199").end();
    // At 99 it is no more than another one of 99; at 98 it still gets ahead of that of 98.
    Run.of(18, now).told("books 2;often;want 0;").rows("steps(98) 98", "set(0, 1) 0", "steps(98) 196", "place(0, 1) 1",
        "ahead(0, 1, 0) 1", "take(0) 1", "ahead(0, 200, 0) 0", "when(0, 1) NONE", "steps(100) 200", "shelf(0, 21) 99",
        "place(0, 1) 1", "alter(0, 2) 3", "steps(1) 3", "alter(0, 3) 2", "take(0) 2", "shelf(0, 20) 99", "place(0, 0) 1").end();
  }

  private static void cost() {
    String now = "a COST (0 to 99999; 0 at first)";
    // A front one PAYS 7 for the last of 6 PLACES, again and again: too little for 512 calls.
    Run run = Run.of(17, now).beyondTheLastCall().told("books 6;front;stay;want 0 1 2 3 4 5;");
    for (int b = 5; b >= 0; b--) {
      run.rows("take(" + b + ") " + (7 + b + 1));
    }
    run.rows("shelf(0, 1) 42", "shelf(1, 1) 21", "cut(1) 2");
    for (int i = 42; i + 7 <= 99995; i += 42) {
      run.rows("take(5) 7", "take(4) 7", "take(3) 7", "take(2) 7", "take(1) 7", "take(0) 7");
    }
    // 42 times 2381 is 100002: too much by 3, so the last round met the bound.
    run.rows("shelf(0, 1) 99999", "count(4) 99999", "take(5) 7", "shelf(0, 1) 99999", "count(4) 99999", "rule(5) 0");
    run.rows("paid(0, 1) 3", "paid(0, 2) 7", "runs(2, 0) 7", "steps(2) 7", "shelf(0, 1) 99999");
    run.rows("put(0) 2", "rule(5) 1", "count(4) 99999", "keep(0) 0", "cut(0) 2", "back(0) 2", "shelf(0, 1) 99999").end();
    costJustInside(now);
  }

  /** 99998, 99999, then no more. */
  private static void costJustInside(String now) {
    Run run = Run.of(17, now).beyondTheLastCall().told("books 6;stay;");
    run.rows("take(5) 6 x16666", "shelf(0, 1) 99996", "take(1) 2", "shelf(0, 1) 99998", "take(0) 1",
        "shelf(0, 1) 99999", "take(0) 1", "shelf(0, 1) 99999", "take(5) 6", "shelf(0, 1) 99999").end();
    Run.of(17, now).beyondTheLastCall().told("books 6;stay;").rows("take(5) 6 x16666", "take(5) 6", "shelf(0, 1) 99999").end();
  }

  private static void wants() {
    String now = "WANTS (16 at most), by order, each a BOOK";
    Run.of(15, now).rows("rule(2) 0", "want(0) BAD", "add(3) 1", "add(2) 2", "add(1) 3 x1", "add(0) 4", "add(0) 5",
        "add(0) 6", "add(0) 7", "add(0) 8", "add(0) 9", "add(0) 10", "add(0) 11", "add(0) 12", "add(0) 13", "add(0) 14",
        "add(0) 15", "add(1) 16", "add(1) FULL", "rule(2) 16", "want(0) 3", "want(1) 2", "want(2) 1", "want(15) 1",
        "want(16) BAD", "want(-1) BAD", "drop(15) 16", "want(15) BAD", "add(2) 16", "want(15) 2", "add(2) FULL").end();
    Run.of(4, now).told(SIXTEEN + ";").rows("rule(2) 16", "want(15) 0", "add(0) FULL").end();
    Run.of(4, now).told(SIXTEEN + ";want;").rows("rule(2) 16", "want(15) 0", "add(0) FULL").end();
    Run.of(41, now).told(SIXTEEN + ";").rows("sheet(0, 0, 1) 1", "read(0, 0, 0, 1) -20", "drop(15) 16",
        "read(0, 0, 0, 1) 1", "read(0, 0, 0, 1) -20", "read(0, 0, 0, 0) 0").end();
  }

  private static void step() {
    String now = "STEP (0 at first)";
    Run.of(6, now).rows("rule(3) 0", "steps(1) 0", "rule(3) 1", "steps(100) 0", "rule(3) 101").end();
    Run.of(18, now).told("stay;want 1;").rows("rule(3) 0", "steps(100) 200 x99", "rule(3) 9900", "steps(100) FULL",
        "rule(3) 9900", "shelf(0, 1) 19800", "steps(99) 198", "rule(3) 9999", "steps(1) FULL", "steps(100) FULL",
        "steps(0) 0", "rule(3) 9999", "shelf(0, 1) 19998", "shelf(0, 21) 99").end();
  }

  private static void pays() {
    String now = "PAYS by KIND, for a PLACE: front 1 more than a step one, if PLACE is not 0";
    for (int n = 1; n <= 6; n++) {
      for (int b = 0; b < n; b++) {
        int stays = b + 1;
        int fronts = b == 0 ? 1 : b + 2;
        Run.of(17, now).told("books " + n + ";stay;step;front;often;").rows("take(" + b + ") " + (3 * stays + fronts),
            "shelf(0, 1) " + stays, "shelf(1, 1) " + stays, "shelf(2, 1) " + fronts, "shelf(3, 1) " + stays).end();
      }
    }
  }

  private static void moves() {
    Run.of(17, "step one PLACE ahead (0 at least)").told("books 3;step;").rows("take(1) 2", "place(0, 1) 0", "place(0, 0) 1",
        "take(1) 1", "place(0, 1) 0", "place(0, 0) 1", "take(2) 3", "place(0, 2) 1", "place(0, 0) 2").end();
    Run.of(17, "front to PLACE 0").told("books 3;front;").rows("take(0) 1", "place(0, 0) 0", "take(2) 4", "place(0, 2) 0",
        "place(0, 0) 1", "place(0, 1) 2", "take(2) 1", "place(0, 2) 0").end();
    Run.of(17, "stay to the same one").told("books 3;stay;").rows("take(2) 3", "place(0, 2) 2", "take(0) 1", "place(0, 0) 0").end();
    // It was ASKED 1 more before it MOVES: 1 and 1 is not fewer, 1 and 2 is.
    Run.of(17, "often to the first PLACE at which a BOOK was ASKED fewer times than it").told("books 3;often;").rows(
        "take(2) 3", "place(0, 2) 0", "take(1) 3", "place(0, 1) 1", "take(1) 2", "place(0, 1) 0", "place(0, 2) 1",
        "stand(0, 0, 0) 2", "take(2) 3", "place(0, 2) 0", "place(0, 0) 1", "place(0, 1) 2").end();
    Run.of(17, "to its own one, if there is none ahead").told("books 3;often;").rows("take(0) 1", "place(0, 0) 0",
        "take(1) 2", "place(0, 1) 1", "take(2) 3", "place(0, 2) 2", "stand(0, 0, 2) 0", "take(0) 3", "place(0, 0) 0").end();
    Run.of(17, "BOOKS between move one PLACE on").told("books 6;front;").rows("take(3) 5", "place(0, 3) 0", "place(0, 0) 1",
        "place(0, 1) 2", "place(0, 2) 3", "place(0, 4) 4", "place(0, 5) 5").end();
    Run.of(17, "at each SHELF, and none if there are none").rows("take(0) 0", "take(3) 0", "take(4) BAD").end();
  }

  private static void tape() {
    String now = "THE TAPE has 160 bytes, places from 0";
    Run.of(2, now).fed("stay;" + " ".repeat(154)).rows("count(2) 159", "feed(32) 160", "feed(32) FULL", "count(2) 160",
        "feed(35) FULL", "text() 1", "count(2) 0", "feed(0) 1").end();
    Run.of(2, now).fed(" ".repeat(159)).rows("feed(35) 160", "text() -169", "fault() 1").end();
    Run.of(2, now).fed("#").rows("text() -10", "fault() 1").end();
    Run.of(2, now).fed(" ".repeat(160)).rows("feed(35) FULL", "text() 0", "fault() 0").end();
    Run.of(2, now).fed(" ".repeat(156) + "stay").rows("feed(59) FULL", "text() -170", "fault() 2", "rule(1) 0").end();
    Run.of(2, now).fed(" ".repeat(155) + "stay;").rows("text() 1", "rule(1) 1").end();
  }

  private static void tokens() {
    String now = "TOKENS, each as long as may be, blanks (32) between";
    Run.of(4, now).text("  books   5  ;  stay  ;  want  4   0  ;  ", 3, 0).rows("rule(0) 5", "want(0) 4", "want(1) 0").end();
    Run.of(4, now).text("books5;stay;want4 0;", 3, 0).rows("rule(0) 5", "want(0) 4", "want(1) 0").end();
    Run.of(4, now).text("stay\t;", -14, 1).end();
    Run.of(4, now).text("stay;\n", -15, 1).end();
    Run.of(4, now).text("st ay;", -10, 2).end();
    Run.of(4, now).text("staystep;", -10, 2).end();
    Run.of(4, now).text("wantstay;", -10, 2).end();
    Run.of(4, now).text("want 1 1;", 1, 0).rows("rule(2) 2").end();
    Run.of(4, now).text("want 11;", -15, 3).end();
    Run.of(4, now).text("want 00;", 1, 0).rows("rule(2) 1", "want(0) 0").end();
    Run.of(4, now).text("want 0 0;", 1, 0).rows("rule(2) 2").end();
    Run.of(4, now).text("books 5want 4;", -17, 2).end();
    Run.of(4, "one ;").text("stay;;", -15, 2).end();
    Run.of(4, "one ;").text(";stay;", -10, 2).end();
    // NAMES are of a .. z: what stands beside them, and beside the figures, is no TOKEN.
    for (int c = 0; c < 128; c++) {
      boolean letter = c >= 97 && c <= 122;
      boolean figure = c >= 48 && c <= 57;
      int fault = letter || figure || c == 59 ? 2 : 1;
      Run run = Run.of(4, "NAMES (a .. z), NUMBERS, one ;");
      if (c == 32) {
        run.text(" ", 0, 0).end();
      } else {
        run.text(" " + (char) c, -11, fault).end();
      }
    }
  }

  private static void lines() {
    String now = "text: { line }   line: K ; | books N ; | want { N } ;";
    Run.of(4, now).text("", 0, 0).rows("rule(0) 4", "rule(1) 0", "rule(2) 0").end();
    Run.of(4, now).text(" ", 0, 0).end();
    Run.of(4, now).text("want;", 1, 0).rows("rule(2) 0").end();
    Run.of(4, now).text("want ;", 1, 0).rows("rule(2) 0").end();
    Run.of(4, now).text("want 3;", 1, 0).rows("rule(2) 1").end();
    Run.of(4, now).text("want;".repeat(32), 32, 0).rows("rule(2) 0").end();
    Run.of(4, now).text("stay;step;front;often;books 6;want 5;want 0;", 7, 0).rows("rule(1) 4", "rule(0) 6", "rule(2) 2").end();
    Run.of(4, "want: WANTS, behind those that are there").text("want 1;want 2 3;want;want 0;", 4, 0).rows(
        "want(0) 1", "want(1) 2", "want(2) 3", "want(3) 0", "want(4) BAD").end();
    // Those that were there before the text are not: all is told anew.
    Run.of(4, "want: in place of what there was").told("want 1;").text("want 2;", 1, 0).rows("want(0) 2", "rule(2) 1").end();
  }

  private static void faultOne() {
    String now = "1 no TOKEN, a NUMBER that is too long (its first byte)";
    Run.of(5, now).text("want 99;", -15, 3).end();
    Run.of(5, now).text("want 100;", -15, 1).end();
    Run.of(5, now).text("want 000;", -15, 1).end();
    Run.of(5, now).text("want 0 0000000000;", -17, 1).end();
    Run.of(5, now).text("books 006;", -16, 1).end();
    Run.of(5, now).text("123;", -10, 1).end();
    Run.of(5, now).text("12;", -10, 2).end();
    Run.of(5, now).text("stay 123;", -15, 1).end();
    Run.of(5, now).text("stay;!", -15, 1).end();
    Run.of(5, now).text("want 4294967297;", -15, 1).end();
  }

  private static void faultTwo() {
    String now = "2 a TOKEN that can not stand there (a NAME that begins no line; or the end: the length)";
    Run.of(5, now).text("a;", -10, 2).end();
    Run.of(5, now).text("book 3;", -10, 2).end();
    Run.of(5, now).text("bookss 3;", -10, 2).end();
    Run.of(5, now).text("wants 3;", -10, 2).end();
    Run.of(5, now).text("wan 3;", -10, 2).end();
    Run.of(5, now).text("oftenn;", -10, 2).end();
    Run.of(5, now).text("ofte;", -10, 2).end();
    Run.of(5, now).text("stay;  fronts;", -17, 2).end();
    Run.of(5, now).text("stay", -14, 2).end();
    Run.of(5, now).text("stay ", -15, 2).end();
    Run.of(5, now).text("stay stay;", -15, 2).end();
    Run.of(5, now).text("stay 3;", -15, 2).end();
    Run.of(5, now).text("books", -15, 2).end();
    Run.of(5, now).text("books;", -15, 2).end();
    Run.of(5, now).text("books stay;", -16, 2).end();
    Run.of(5, now).text("books 3", -17, 2).end();
    Run.of(5, now).text("books 3 stay;", -18, 2).end();
    Run.of(5, now).text("books 3 3;", -18, 2).end();
    Run.of(5, now).text("want", -14, 2).end();
    Run.of(5, now).text("want 3", -16, 2).end();
    Run.of(5, now).text("want 3 want;", -17, 2).end();
    Run.of(5, now).text("want 3 stay;", -17, 2).end();
    Run.of(5, now).text(SIXTEEN, -10 - SIXTEEN.length(), 2).end();
    Run.of(5, now).text(SIXTEEN + " stay;", -11 - SIXTEEN.length(), 2).end();
  }

  private static void faultThree() {
    String now = "3 a NUMBER out of its bounds";
    Run.of(5, now).text("want 5;books 6;", 2, 0).end();
    Run.of(5, now).text("want 6;books 6;", -15, 3).end();
    Run.of(5, now).text("want 0 06;", -17, 3).end();
    Run.of(5, now).text("books 1;want 0;", 2, 0).end();
    Run.of(5, now).text("books 6;", 1, 0).end();
    Run.of(5, now).text("books 0;", -16, 3).end();
    Run.of(5, now).text("books 7;", -16, 3).end();
    Run.of(5, now).text("books 10;", -16, 3).end();
    Run.of(5, now).text("books 99;", -16, 3).end();
  }

  private static void faultFour() {
    String now = "4 books for the second time (its NAME)";
    Run.of(5, now).text("books 3;books 3;", -18, 4).end();
    Run.of(5, now).text("books 3;stay;want 0;books", -30, 4).end();
    Run.of(5, now).text("books 3;", 1, 0).text("books 4;", 1, 0).rows("rule(0) 4").end();
    Run.of(5, now).text("books 3;books 3;", -18, 4).text("books 4;", 1, 0).rows("rule(0) 4").end();
  }

  private static void faultFive() {
    Run.of(5, "5 the 5th SHELF (its NAME)").text("stay;stay;stay;stay;", 4, 0).text("stay;stay;stay;stay; often;", -31, 5)
        .rows("rule(1) 4").end();
    Run.of(5, "5 the 5th SHELF (its NAME)").text("stay;step;want 1;front;often;books 3;step", -47, 5).rows("rule(1) 0").end();
    // SHELVES that were there before do not count.
    Run.of(5, "5 the 5th SHELF (its NAME)").told("stay;step;front;often;").text("often;front;step;stay;", 4, 0)
        .rows("shelf(0, 0) 3", "rule(1) 4").end();
    String now = "5 a 17th WANT (its NUMBER, whether it is one or not)";
    int length = SIXTEEN.length();
    Run.of(5, now).text(SIXTEEN + " 0;", -11 - length, 5).end();
    Run.of(5, now).text(SIXTEEN + " 5;", -11 - length, 5).end();
    Run.of(5, now).text(SIXTEEN + " 6;", -11 - length, 5).end();
    Run.of(5, now).text(SIXTEEN + " 99;", -11 - length, 5).end();
    Run.of(5, now).text(SIXTEEN + ";want 0;", -10 - length - 6, 5).end();
    Run.of(5, now).text(SIXTEEN + ";want 77;", -10 - length - 6, 5).end();
    Run.of(5, now).text(SIXTEEN + ";want;stay;", 3, 0).rows("rule(2) 16").end();
    Run.of(5, now).told(SIXTEEN + ";").text(SIXTEEN + ";", 1, 0).rows("rule(2) 16").end();
  }

  private static void faultSix() {
    String now = "behind all (the length): 6 a BOOK that there is not";
    Run.of(5, now).text("want 3;", 1, 0).end();
    Run.of(5, now).text("want 4;", -17, 6).end();
    Run.of(5, now).text("want 4;  ", -19, 6).end();
    Run.of(5, now).text("want 5 0;books 6;", 2, 0).end();
    Run.of(5, now).text("want 5 0;books 5;", -27, 6).end();
    Run.of(5, now).text("books 1;want 0 0 1;stay;", -34, 6).rows("rule(1) 0").end();
    Run.of(5, now).text("want 1;books 1;", -25, 6).end();
    Run.of(5, now).text(" ".repeat(153) + "want 4;", -170, 6).end();
    // How many BOOKS there were before does not count.
    Run.of(5, now).told("books 6;").text("want 5;", -17, 6).rows("rule(0) 6").end();
    Run.of(5, now).told("books 1;").text("want 3;", 1, 0).rows("rule(0) 4").end();
  }

  private static void theFirstMet() {
    String now = "FAULTS, the first met as it is read (a TOKEN is read when the one before has been taken)";
    Run.of(5, now).text("stay #", -15, 1).end();
    Run.of(5, now).text("stays #", -10, 2).end();
    Run.of(5, now).text("7 #", -10, 2).end();
    Run.of(5, now).text("books 0 #", -16, 3).end();
    Run.of(5, now).text("books 2 #", -18, 1).end();
    Run.of(5, now).text("books 2;books #", -18, 4).end();
    Run.of(5, now).text("books 2;books 9;", -18, 4).end();
    Run.of(5, now).text("books #;books 2;", -16, 1).end();
    Run.of(5, now).text("stay;stay;stay;stay;step #", -30, 5).end();
    Run.of(5, now).text("stay;stay;stay;stay;steps #", -30, 2).end();
    Run.of(5, now).text(SIXTEEN + " 9 #", -11 - SIXTEEN.length(), 5).end();
    Run.of(5, now).text(SIXTEEN + " 999", -11 - SIXTEEN.length(), 1).end();
    Run.of(5, now).text("want 5;stay", -21, 2).end();
    Run.of(5, now).text("want 5;books 7;", -23, 3).end();
    Run.of(5, now).text("want 5;stay;#", -22, 1).end();
  }

  private static void aTextTellsAll() {
    String now = "a text that is taken tells all, in place of what there was; nothing is SEEN; IMAGES are gone";
    String before = "books 6;front;often;want 5 4 3;";
    // front 7 7 7 4 4 4 4, often 6 6 6 1 2 3 1.
    String[] grown = {"steps(7) 62", "see(0, 0, 0) 1", "see(1, 1, 1) 2", "keep(0) 0", "keep(1) 0", "runs(3, 0) 18",
        "sheet(0, 0, 3) 1", "lay(0, 0, 2) 1", "read(0, 1, 0, 1) 0", "torn() 3"};
    String[] gone = {"rule(3) 0", "rule(4) NONE", "count(0) 0", "count(1) 0", "back(0) STATE", "back(1) STATE", "count(4) 0",
        "count(5) 0", "rule(2) 0", "keep(0) 0", "keep(1) 0"};
    String[] first = {"shelf(0, 0) 2", "shelf(0, 1) 0", "shelf(0, 10) 0", "shelf(0, 13) 3", "shelf(0, 14) BAD",
        "shelf(0, 20) 0", "shelf(0, 23) 0", "rule(1) 1", "rule(0) 4"};
    Run.of(4, now).told(before).rows(grown).text("front;", 1, 0).rows(gone).rows(first).rows("torn() 3", "count(3) 3").end();
    Run.of(4, now).told(before).rows(grown).text("", 0, 0).rows(gone).rows("rule(0) 4", "rule(1) 0", "put(2) 1").rows(first).end();
    // The latest question leaves no trace in what is told.
    Run.of(4, now).told(before).rows("steps(5) 50", "again() 3").text("want 1 2;stay;", 2, 0).rows("rule(3) 0", "rule(4) 0",
        "steps(1) 2").end();
    Run.of(4, "that which was told stays").told(before).rows(grown).text("front;x", -16, 2).rows("rule(3) 7", "rule(4) 1",
        "count(0) 2", "count(1) 2", "count(4) 62", "count(5) 12", "rule(1) 2", "back(1) 7").end();
    Run.of(4, "that which was told stays").told(before).rows(grown).text("books 2;want 2;", -25, 6).rows("rule(0) 6", "rule(2) 3",
        "count(0) 2", "keep(0) 1", "keep(1) 1").end();
  }

  private static void aStep() {
    String now = "the WANT whose number STEP leaves by WANTS is ASKED for (nothing, if there are none); STEP is 1 more";
    Run.of(18, now).told("stay;want 0 1 2;").rows("rule(4) 0", "steps(1) 1", "rule(4) 1", "steps(1) 2", "rule(4) 2",
        "steps(1) 3", "rule(4) 0", "steps(1) 1", "rule(3) 4", "add(3) 4", "rule(4) 0", "steps(1) 1", "drop(2) 4",
        "rule(4) 1", "steps(1) 2", "drop(0) 2", "rule(4) NONE", "steps(1) 0", "rule(3) 7", "add(3) 1", "rule(4) 0", "steps(1) 4").end();
    Run.of(18, now).told("stay;want 3 0 0 0 0 0 0 0 0 0 0 0 0 0 0 2;").rows("steps(15) 18", "rule(4) 15", "steps(1) 3",
        "rule(4) 0", "steps(1) 4", "rule(4) 1", "rule(3) 17").end();
    Run.of(18, now).told("stay;").rows("steps(1) 0", "rule(3) 1", "shelf(0, 1) 0", "shelf(0, 20) 0", "runs(200, 0) 0").end();
    Run.of(18, now).told("want 1;").rows("steps(100) 0", "rule(3) 100", "put(0) 1", "shelf(0, 21) 0").end();
    // 9999 leaves 1 by 2, 0 by 3: BY STEPS it goes on beyond the last STEP.
    Run.of(18, now).rows("steps(100) 0 x99", "steps(99) 0", "put(0) 1", "add(0) 1", "add(3) 2", "rule(4) 1", "runs(1, 0) 4",
        "runs(2, 0) 5", "runs(200, 0) 500", "again() 2", "add(2) 3", "rule(4) 0", "runs(1, 0) 1", "steps(1) FULL").end();
  }

  private static void seen() {
    String now = "SEEN (6): behind n STEPS (0 to 40) from now on a BOOK stands first on a SHELF";
    Run.of(31, now).told("books 3;front;want 2;").rows("count(0) 0", "see(-1, 0, 0) BAD", "see(41, 0, 0) BAD", "see(0, 0, 0) 1",
        "see(40, 0, 2) 2", "see(1, 0, 2) 3", "see(2, 0, 2) 4", "see(3, 0, 2) 5", "see(4, 0, 2) 6", "see(5, 0, 2) FULL",
        "count(0) 6", "kinds(0) 12", "forget(5) 6", "see(40, 0, 1) 6", "kinds(0) 0", "see(0, 0, 0) FULL").end();
    // Only the sixth is not so: it counts too.
    Run.of(31, now).told("books 3;front;want 2;").rows("see(0, 0, 0) 1", "see(0, 0, 0) 2", "see(0, 0, 0) 3", "see(0, 0, 0) 4",
        "see(0, 0, 0) 5", "kinds(0) 15", "books(0) 7", "see(40, 0, 2) 6", "kinds(0) 14", "books(0) 4").end();
  }

  private static void sheets() {
    String now = "SHEETS 0 to 3 are rows of BYTES (lane 0), SHORTS (1), INTS (2) with 0 to 40 CELLS, or nothing (at first)";
    for (int k = 0; k < 4; k++) {
      Run.of(39, now).rows("lay(" + k + ", 0, 0) -11", "read(" + k + ", 0, 0, 1) 0", "torn() 1").end();
      for (int lane = 0; lane < 3; lane++) {
        String sheet = "sheet(" + k + ", " + lane + ", ";
        Run run = Run.of(39, now).rows(sheet + "41) BAD", sheet + "-1) -14", "lay(" + k + ", 0, 0) -11");
        run.rows(sheet + "0) 1", "lay(" + k + ", 0, 0) -12", sheet + "1) 1", "lay(" + k + ", 0, 3) 1", "lay(" + k + ", 1, 3) -12",
            sheet + "40) 1", "lay(" + k + ", 39, 2) 1", "lay(" + k + ", 40, 2) -12", "lay(" + k + ", -1, 2) -12",
            "read(" + k + ", " + lane + ", 38, 3) 2", "torn() 2", "want(0) 0", "want(1) 2");
        for (int other = 0; other < 3; other++) {
          run.rows("read(" + k + ", " + other + ", 39, 1) " + (other == lane ? "1" : "0"), "torn() " + (other == lane ? "0" : "3"));
        }
        run.rows(sheet + "41) BAD", sheet + "-1) -14", sheet + "LEAST) -14", sheet + "GREATEST) BAD",
            "count(3) " + (k == 0 ? "40" : "NONE")).end();
      }
    }
    Run.of(39, now).rows("sheet(-1, 0, 0) BAD", "sheet(4, 0, 0) BAD", "sheet(0, -1, 0) BAD", "sheet(0, 3, 0) BAD", "count(3) NONE").end();
  }
}
