/** Promises 29, 30 and 36: wants that do not come, wants by a seed. */
public final class OddsTest {
  public static void main(String[] args) {
    lucks();
    means();
    drifts();
    changesNothing();
    wrongInputs();
    Due.end();
  }

  private static void luck(ShelfWays x, int[] call, long above, long below) {
    String name = "luck(" + call[0] + ", " + call[1] + ", " + call[2] + ", " + call[3] + ", ";
    Due.is(29, name + "0)", x.luck(call[0], call[1], call[2], call[3], 0), above);
    Due.is(29, name + "1)", x.luck(call[0], call[1], call[2], call[3], 1), below);
  }

  private static void lucks() {
    ShelfWays x = Due.told("books 2;stay;front;want 1;");
    luck(x, new int[] {5, 1, 1, 1}, 1, 2);
    luck(x, new int[] {5, 1, 1, 2}, 3, 4);
    luck(x, new int[] {5, 1, 0, 2}, 1, 4);
    luck(x, new int[] {3, 1, 1, 1}, 7, 10);
    luck(x, new int[] {4, 1, 1, 1}, 3, 5);
    luck(x, new int[] {0, 1, 1, 1}, 1, 1);
    luck(x, new int[] {0, 1, 0, 8}, 0, 1);
    luck(x, new int[] {10, 1, 1, 8}, 0, 1);
    luck(x, new int[] {10, 1, 0, 8}, 1, 1);
    luck(x, new int[] {7, 1, 0, 0}, 1, 1);
    luck(x, new int[] {7, 1, 1, 0}, 0, 1);
    luck(x, new int[] {7, 0, 0, 8}, 1, 1);
    luck(x, new int[] {7, 1, 0, 8}, 5764801, 100000000);
    luck(x, new int[] {1, 1, 1, 8}, 99999999, 100000000);
    luck(x, new int[] {5, 1, 0, 8}, 1, 256);
    // A WANT that does not come is gone: 1 then 0, and 1 stands first if it came and 0 did not.
    ShelfWays two = Due.told("books 2;front;want 1 0;");
    luck(two, new int[] {2, 0, 1, 2}, 4, 25);
    two.steps(1);
    luck(two, new int[] {2, 0, 0, 1}, 4, 5);
    luck(Due.told("books 3;often;"), new int[] {5, 0, 0, 8}, 1, 1);
  }

  private static void mean(ShelfWays x, int[] call, long above, long below) {
    String name = "mean(" + call[0] + ", " + call[1] + ", ";
    Due.is(30, name + "0)", x.mean(call[0], call[1], 0), above);
    Due.is(30, name + "1)", x.mean(call[0], call[1], 1), below);
  }

  private static void means() {
    ShelfWays x = Due.told("books 2;front;want 1;");
    mean(x, new int[] {5, 1}, 3, 2);
    mean(x, new int[] {5, 2}, 5, 2);
    mean(x, new int[] {0, 2}, 4, 1);
    mean(x, new int[] {10, 8}, 0, 1);
    mean(x, new int[] {3, 0}, 0, 1);
    mean(x, new int[] {9, 1}, 3, 10);
    x.put(0);
    // The stay one pays 2 by half, twice.
    mean(x, new int[] {5, 2}, 9, 2);
    mean(x, new int[] {5, 1}, 5, 2);
    x.steps(3);
    mean(x, new int[] {5, 1}, 3, 2);
    x.set(0, 0);
    mean(x, new int[] {0, 1}, 4, 1);
    x.set(0, 1);
    luck(x, new int[] {0, 0, 1, 1}, 1, 1);
    mean(Due.told("want 1;"), new int[] {5, 8}, 0, 1);
    mean(Due.told("front;"), new int[] {5, 8}, 0, 1);
    mean(Due.told("books 6;stay;stay;stay;stay;want 5;"), new int[] {0, 8}, 192, 1);
    mean(Due.told("books 6;stay;stay;stay;stay;want 5;"), new int[] {5, 8}, 96, 1);
  }

  /** A seed of 1 gets 16838, 5758, 10113, 17515, 31051: by 6 BOOKS 2, 4, 3, 1, 1. */
  private static void drifts() {
    ShelfWays x = Due.told("books 6;stay;want 0;");
    int[] due = {0, 3, 8, 12, 14, 16};
    for (int n = 1; n < due.length; n++) {
      Due.is(36, "drift(1, " + n + ", 0)", x.drift(1, n, 0), due[n]);
    }
    x.put(2);
    // front: 4 6 6 6 1.
    Due.is(36, "drift(1, 5, 0) of both", x.drift(1, 5, 0), 16 + 23);
    Due.is(36, "drift(1, 5, 1)", x.drift(1, 5, 1), 0);
    ShelfWays y = Due.told("books 6;front;stay;");
    Due.is(36, "drift(1, 5, 1), the other way", y.drift(1, 5, 1), 1);
    ShelfWays even = Due.told("books 6;front;stay;stay;");
    Due.is(36, "of several the first", even.drift(1, 5, 1), 1);
    ShelfWays one = Due.told("books 1;often;");
    Due.is(36, "drift(-1, 200, 0)", one.drift(-1, 200, 0), 200);
    Due.is(36, "drift(least, 1, 0)", one.drift(Integer.MIN_VALUE, 1, 0), 1);
    // A seed below 0: -1 becomes -1103502900, bits 16 to 30 of it are 15929; by 6 it is 5.
    Due.is(36, "drift(-1, 1, 0)", x.drift(-1, 1, 0), 6 + 7);
    ShelfWays none = Due.told("want 1;");
    Due.is(36, "no SHELVES", none.drift(1, 1, 0), Due.STATE);
    Due.is(36, "no SHELVES", none.drift(1, 200, 1), Due.STATE);
    Due.is(36, "no SHELVES, BAD", none.drift(1, 0, 0), Due.BAD);
    Due.is(36, "no SHELVES, BAD", none.drift(1, 1, 2), Due.BAD);
    x.steps(2);
    x.take(2);
    Due.is(36, "as it is now", x.drift(1, 1, 0), 3 + 1);
  }

  private static void changesNothing() {
    ShelfWays x = Due.told("books 5;front;often;want 4 1 3 1;");
    x.steps(3);
    String before = Due.all(x);
    x.luck(3, 0, 1, 5, 0);
    x.mean(3, 5, 0);
    x.drift(99, 50, 0);
    Due.isTrue(36, "nothing is changed", before.equals(Due.all(x)));
  }

  private static void wrongInputs() {
    ShelfWays x = Due.told("stay;want 1;");
    Due.is(29, "luck(11, ..)", x.luck(11, 0, 0, 1, 0), Due.BAD);
    Due.is(29, "luck(5, 1, ..)", x.luck(5, 1, 0, 1, 0), Due.BAD);
    Due.is(29, "luck(5, 0, 4, ..)", x.luck(5, 0, 4, 1, 0), Due.BAD);
    Due.is(29, "luck(5, 0, 0, 9, 0)", x.luck(5, 0, 0, 9, 0), Due.BAD);
    Due.is(29, "luck(5, 0, 0, 1, 2)", x.luck(5, 0, 0, 1, 2), Due.BAD);
    Due.is(30, "mean(11, 1, 0)", x.mean(11, 1, 0), Due.BAD);
    Due.is(30, "mean(5, 9, 0)", x.mean(5, 9, 0), Due.BAD);
    Due.is(30, "mean(5, 1, 2)", x.mean(5, 1, 2), Due.BAD);
    Due.is(36, "drift(1, 0, 0)", x.drift(1, 0, 0), Due.BAD);
    Due.is(36, "drift(1, 201, 0)", x.drift(1, 201, 0), Due.BAD);
    Due.is(36, "drift(1, 1, 2)", x.drift(1, 1, 2), Due.BAD);
    for (int wild : Due.WILD) {
      Due.is(29, "luck(" + wild + ", ..)", x.luck(wild, 0, 0, 1, 0), Due.BAD);
      Due.is(29, "luck(5, " + wild + ", ..)", x.luck(5, wild, 0, 1, 0), Due.BAD);
      Due.is(29, "luck(5, 0, " + wild + ", ..)", x.luck(5, 0, wild, 1, 0), Due.BAD);
      Due.is(29, "luck(5, 0, 0, " + wild + ", 0)", x.luck(5, 0, 0, wild, 0), Due.BAD);
      Due.is(29, "luck(5, 0, 0, 1, " + wild + ")", x.luck(5, 0, 0, 1, wild), Due.BAD);
      Due.is(30, "mean(" + wild + ", 1, 0)", x.mean(wild, 1, 0), Due.BAD);
      Due.is(30, "mean(5, " + wild + ", 0)", x.mean(5, wild, 0), Due.BAD);
      Due.is(30, "mean(5, 1, " + wild + ")", x.mean(5, 1, wild), Due.BAD);
      Due.is(36, "drift(1, " + wild + ", 0)", x.drift(1, wild, 0), Due.BAD);
      Due.is(36, "drift(1, 1, " + wild + ")", x.drift(1, 1, wild), Due.BAD);
    }
  }
}
