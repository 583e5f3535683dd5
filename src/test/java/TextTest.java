/** Promises 1 to 9: a new object, the text, what there is. */
public final class TextTest {
  public static void main(String[] args) {
    newObject();
    feedAndEnd();
    textTaken();
    textFaults();
    faultOrder();
    textTellsAll();
    rules();
    shelves();
    places();
    Due.end();
  }

  private static void newObject() {
    ShelfWays x = new ShelfWays();
    Due.is(1, "rule(0)", x.rule(0), 4);
    Due.is(1, "rule(1)", x.rule(1), 0);
    Due.is(1, "rule(2)", x.rule(2), 0);
    Due.is(1, "rule(3)", x.rule(3), 0);
    Due.is(1, "rule(4)", x.rule(4), Due.NONE);
    Due.is(1, "rule(5)", x.rule(5), Due.NONE);
    for (int k = 0; k < 4; k++) {
      Due.is(1, "lay(" + k + ", 0, 0)", x.lay(k, 0, 0), -11);
    }
    Due.is(1, "fault()", x.fault(), 0);
    Due.is(1, "torn()", x.torn(), 0);
    Due.is(1, "count(0)", x.count(0), 0);
    Due.is(1, "count(1)", x.count(1), 0);
    Due.is(1, "count(2)", x.count(2), 0);
  }

  private static void feedAndEnd() {
    ShelfWays x = new ShelfWays();
    Due.is(2, "feed(0)", x.feed(0), 1);
    Due.is(2, "feed(127)", x.feed(127), 2);
    Due.is(2, "feed(128)", x.feed(128), Due.BAD);
    for (int wild : Due.WILD) {
      Due.is(2, "feed(" + wild + ")", x.feed(wild), Due.BAD);
      Due.is(3, "end(" + wild + ")", x.end(wild), Due.BAD);
    }
    Due.is(2, "count(2)", x.count(2), 2);
    for (int i = 3; i <= 160; i++) {
      Due.is(2, "feed(32)", x.feed(32), i);
    }
    Due.is(2, "feed(32) on a full tape", x.feed(32), Due.FULL);
    Due.is(2, "feed(128) on a full tape", x.feed(128), Due.BAD);
    Due.is(3, "end(161)", x.end(161), Due.BAD);
    Due.is(3, "end(160)", x.end(160), 160);
    Due.is(3, "end(2)", x.end(2), 160);
    Due.is(3, "end(3)", x.end(3), Due.BAD);
    Due.is(3, "end(0)", x.end(0), 2);
    Due.is(3, "end(0)", x.end(0), 0);
    Due.is(2, "feed(115)", x.feed(115), 1);
    Due.feed(x, "tay;junk");
    Due.is(3, "end(5)", x.end(5), 9);
    Due.is(3, "text() of the first 5", x.text(), 1);
    Due.is(3, "rule(1)", x.rule(1), 1);
    keptOnly("want 1234", 6, -16, 2);
    keptOnly("stays", 4, -14, 2);
    keptOnly("want;;;;", 5, 1, 0);
    keptOnly("stay;#", 5, 1, 0);
  }

  /** What end() took away is not read. */
  private static void keptOnly(String fed, int n, int answer, int fault) {
    ShelfWays x = new ShelfWays();
    Due.feed(x, fed);
    x.end(n);
    Due.is(3, "text() of the first " + n + " of " + fed, x.text(), answer);
    Due.is(3, "fault()", x.fault(), fault);
  }

  private static void textTaken() {
    taken("", 0);
    taken("    ", 0);
    taken("stay;", 1);
    taken("  stay  ;  ", 1);
    taken("stay;step;front;often;", 4);
    taken("want;", 1);
    taken("want;want;want;", 3);
    taken("books6;want5;", 2);
    taken("books 06;want 05 00;", 2);
    taken("want 5;books 6;", 2);
    taken("want 0 1 2 3 0 1 2 3;want 0 1 2 3 0 1 2 3;want;", 3);
    taken("books 1;want 0;", 2);
    StringBuilder longest = new StringBuilder("stay;");
    while (longest.length() < 160) {
      longest.append("want;");
    }
    taken(longest.toString(), 32);
    ShelfWays x = Due.told("often;want 3;front;want 2 1;books 5;");
    Due.is(4, "kind of the first", x.shelf(0, 0), 3);
    Due.is(4, "kind of the second", x.shelf(1, 0), 2);
    Due.is(4, "want(0)", x.want(0), 3);
    Due.is(4, "want(1)", x.want(1), 2);
    Due.is(4, "want(2)", x.want(2), 1);
    Due.is(4, "rule(0)", x.rule(0), 5);
    Due.is(4, "rule(2)", x.rule(2), 3);
  }

  private static void taken(String text, int lines) {
    ShelfWays x = new ShelfWays();
    Due.is(4, "text of \"" + text + "\"", Due.text(x, text), lines);
    Due.is(5, "fault of \"" + text + "\"", x.fault(), 0);
    Due.is(4, "count(2)", x.count(2), 0);
  }

  private static void textFaults() {
    refused("#", 1, 0);
    refused("  #", 1, 2);
    refused("Stay;", 1, 0);
    refused("stay;\n", 1, 5);
    refused("stay:", 1, 4);
    refused("stay{", 1, 4);
    refused("stay`", 1, 4);
    refused("want 123;", 1, 5);
    refused("want 1 000;", 1, 7);
    refused("books 001;", 1, 6);
    refused("want 1/", 1, 6);
    refused("stay", 2, 4);
    refused("stay   ", 2, 7);
    refused("want", 2, 4);
    refused("want 1 2", 2, 8);
    refused("books", 2, 5);
    refused("books ;", 2, 6);
    refused("books 3", 2, 7);
    refused("books 3 4;", 2, 8);
    refused("books want;", 2, 6);
    refused("stays;", 2, 0);
    refused("sta;", 2, 0);
    refused("xtay;", 2, 0);
    refused("stax;", 2, 0);
    refused("vant 1;", 2, 0);
    refused("cooks 3;", 2, 0);
    refused("az;", 2, 0);
    refused("want z;", 2, 5);
    refused("stepwant;", 2, 0);
    refused(";", 2, 0);
    refused("stay;;", 2, 5);
    refused("7;", 2, 0);
    refused("want 1 stay;", 2, 7);
    refused("stay want;", 2, 5);
    refused("books 0;", 3, 6);
    refused("books 7;", 3, 6);
    refused("books 99;", 3, 6);
    refused("want 0 6;", 3, 7);
    refused("want 10;", 3, 5);
    refused("books 2;stay;books 3;", 4, 13);
    refused("books 2;books", 4, 8);
    refused("stay;step;front;often;  stay;", 5, 24);
    refused("want 0 0 0 0 0 0 0 0;want 0 0 0 0 0 0 0 0 1;", 5, 42);
    String full = " ".repeat(155);
    refused(full + "want1", 2, 160);
    refused(full + " want", 2, 160);
    refused(full + "stayx", 2, 155);
    refused(full + "    #", 1, 159);
    refused(full + "  123", 1, 157);
    refused("want 4;", 6, 7);
    refused("want 3;books 3;  ", 6, 17);
    refused("books 5;want 0 5 0;stay;", 6, 24);
  }

  private static void refused(String text, int fault, int place) {
    ShelfWays x = Due.told("books 3;front;want 2 1;");
    x.see(0, 0, 0);
    x.keep(1);
    x.steps(1);
    String before = Due.all(x).replaceAll("\\d+ -?\\d+$", "");
    Due.is(4, "text of \"" + text + "\"", Due.text(x, text), -10 - place);
    Due.is(5, "fault of \"" + text + "\"", x.fault(), fault);
    Due.is(4, "count(2)", x.count(2), 0);
    String behind = Due.all(x).replaceAll("\\d+ -?\\d+$", "");
    Due.isTrue(4, "what was told stays, \"" + text + "\"", before.equals(behind));
    Due.is(4, "the images stay", x.back(1), 0);
    Due.is(5, "fault() again", x.fault(), fault);
    Due.text(x, "stay;");
    Due.is(5, "fault() of the latest", x.fault(), 0);
  }

  /** Of two faults the one that is met first as the text is read. */
  private static void faultOrder() {
    String sixteen = "want 0 0 0 0 0 0 0 0 0 0 0 0 0 0 0 0 ";
    refused(sixteen + "99;", 5, sixteen.length());
    refused(sixteen + "6;", 5, sixteen.length());
    refused(sixteen + "100;", 1, sixteen.length());
    refused(sixteen + "x;", 2, sixteen.length());
    refused("stay;stay;stay;stay;stay#", 5, 20);
    refused("stay;stay;stay;stay;stays", 2, 20);
    refused("books 7#", 3, 6);
    refused("books 2;books#", 4, 8);
    refused("want 4;#", 1, 7);
    refused("want 4;stay", 2, 11);
    refused("want 6 #", 3, 5);
    refused("nothing#", 2, 0);
  }

  private static void textTellsAll() {
    ShelfWays x = Due.told("books 5;front;front;want 4 4;");
    x.steps(3);
    x.see(1, 0, 1);
    x.keep(0);
    x.keep(1);
    x.sheet(0, 0, 7);
    Due.is(4, "text()", Due.text(x, "step;want 3;"), 2);
    Due.is(4, "rule(0)", x.rule(0), 4);
    Due.is(4, "rule(1)", x.rule(1), 1);
    Due.is(4, "rule(2)", x.rule(2), 1);
    Due.is(4, "rule(3)", x.rule(3), 0);
    Due.is(4, "cost", x.shelf(0, 1), 0);
    Due.is(4, "row", Due.row(x, 0), 90123);
    Due.is(4, "asked", x.shelf(0, 20), 0);
    Due.is(4, "count(0)", x.count(0), 0);
    Due.is(4, "count(1)", x.count(1), 0);
    Due.is(4, "back(0)", x.back(0), Due.STATE);
    Due.is(4, "the sheets stay", x.count(3), 7);
    Due.is(4, "an empty text", x.text(), 0);
    Due.is(4, "rule(1)", x.rule(1), 0);
    Due.is(4, "rule(2)", x.rule(2), 0);
  }

  private static void rules() {
    ShelfWays x = Due.told("books 6;front;stay;step;want 5 4 3;");
    Due.is(6, "rule(0)", x.rule(0), 6);
    Due.is(6, "rule(1)", x.rule(1), 3);
    Due.is(6, "rule(2)", x.rule(2), 3);
    Due.is(6, "rule(3)", x.rule(3), 0);
    Due.is(6, "rule(4)", x.rule(4), 0);
    Due.is(6, "rule(5)", x.rule(5), 0);
    x.steps(2);
    Due.is(6, "rule(3)", x.rule(3), 2);
    Due.is(6, "rule(4) is a number of a WANT", x.rule(4), 2);
    // front: 5 pays 7, then 4 (at PLACE 5) pays 7; stay: 6 and 5; step: 6, then 4 at PLACE 5 pays 6.
    Due.is(6, "rule(5)", x.rule(5), 1);
    x.steps(2);
    Due.is(6, "rule(4) comes round", x.rule(4), 1);
    x.drop(0);
    Due.is(6, "rule(4) without WANTS", x.rule(4), Due.NONE);
    x.cut(0);
    Due.is(6, "rule(5) without SHELVES", x.rule(5), Due.NONE);
    Due.is(6, "rule(6)", x.rule(6), Due.BAD);
    for (int wild : Due.WILD) {
      Due.is(6, "rule(" + wild + ")", x.rule(wild), Due.BAD);
    }
  }

  private static void shelves() {
    ShelfWays x = Due.told("books 3;stay;often;want 2;");
    x.steps(2);
    x.take(1);
    Due.is(7, "shelf(1, 0)", x.shelf(1, 0), 3);
    Due.is(7, "shelf(0, 1)", x.shelf(0, 1), 8);
    // often: 2 pays 3 and comes first, pays 1, then 1 (at PLACE 2) pays 3.
    Due.is(7, "shelf(1, 1)", x.shelf(1, 1), 7);
    Due.is(7, "row of stay", Due.row(x, 0), 9012);
    Due.is(7, "row of often", Due.row(x, 1), 9210);
    Due.is(7, "asked 0", x.shelf(1, 20), 0);
    Due.is(7, "asked 1", x.shelf(1, 21), 1);
    Due.is(7, "asked 2", x.shelf(1, 22), 2);
    int[] none = {2, 9, 13, 14, 15, 16, 19, 23, 25, 26, 30};
    for (int what : none) {
      Due.is(7, "shelf(0, " + what + ")", x.shelf(0, what), Due.BAD);
    }
    Due.is(7, "shelf(2, 0)", x.shelf(2, 0), Due.BAD);
    Due.is(9, "want(0)", x.want(0), 2);
    Due.is(9, "want(1)", x.want(1), Due.BAD);
    for (int wild : Due.WILD) {
      Due.is(7, "shelf(0, " + wild + ")", x.shelf(0, wild), Due.BAD);
      Due.is(7, "shelf(" + wild + ", 0)", x.shelf(wild, 0), Due.BAD);
      Due.is(8, "place(0, " + wild + ")", x.place(0, wild), Due.BAD);
      Due.is(8, "place(" + wild + ", 0)", x.place(wild, 0), Due.BAD);
      Due.is(9, "want(" + wild + ")", x.want(wild), Due.BAD);
    }
  }

  private static void places() {
    ShelfWays x = Due.told("books 5;stay;front;want 3;");
    x.steps(1);
    int[] due = {1, 2, 3, 0, 4};
    for (int b = 0; b < 5; b++) {
      Due.is(8, "place(0, " + b + ")", x.place(0, b), b);
      Due.is(8, "place(1, " + b + ")", x.place(1, b), due[b]);
    }
    Due.is(8, "place(0, 5)", x.place(0, 5), Due.BAD);
    Due.is(8, "place(2, 0)", x.place(2, 0), Due.BAD);
  }
}
