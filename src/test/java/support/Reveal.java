/**
 * All that later calls can show of an object, as one text. It uses the object up: SEEN is forgotten,
 * IMAGES are taken back, SHEETS and THE TAPE are read, one behind another.
 */
final class Reveal {
  private final ShelfWays x;
  private final StringBuilder shown = new StringBuilder();
  private int calls = 0;

  private Reveal(ShelfWays x) {
    this.x = x;
  }

  /** Answers how many calls it took, then what was shown. */
  static String[] of(ShelfWays x, boolean withFault) {
    Reveal reveal = new Reveal(x);
    if (withFault) {
      reveal.note("fault", x.fault());
    }
    reveal.note("torn", x.torn());
    for (int what = 0; what < 6; what++) {
      reveal.note("count " + what, x.count(what));
    }
    reveal.house("now");
    reveal.seen();
    reveal.images();
    reveal.sheets();
    reveal.tape();
    return new String[] {String.valueOf(reveal.calls), reveal.shown.toString()};
  }

  private int note(String what, long answer) {
    calls++;
    shown.append(what).append(": ").append(answer).append('\n');
    return (int) answer;
  }

  /** BOOKS, SHELVES, WANTS and STEP. */
  private void house(String when) {
    shown.append(when).append('\n');
    int books = note("rule 0", x.rule(0));
    int shelves = note("rule 1", x.rule(1));
    int wants = note("rule 2", x.rule(2));
    note("rule 3", x.rule(3));
    for (int s = 0; s < shelves; s++) {
      note("kind", x.shelf(s, 0));
      note("cost", x.shelf(s, 1));
      // The BOOK at the last PLACE is the one that is at no other.
      for (int p = 0; p < books - 1; p++) {
        note("at " + p, x.shelf(s, 10 + p));
      }
      for (int b = 0; b < books; b++) {
        note("asked " + b, x.shelf(s, 20 + b));
      }
    }
    for (int i = 0; i < wants; i++) {
      note("want " + i, x.want(i));
    }
  }

  private void seen() {
    int shelves = x.rule(1);
    int many = x.count(0);
    calls += 2;
    for (int k = many; k > 0; k--) {
      note("kinds as SEEN by " + k, shelves > 0 ? x.kinds(0) : 0);
      note("books as SEEN by " + k, x.books(0));
      note("forget", x.forget(k - 1));
    }
  }

  private void images() {
    for (int k = 0; k < 2; k++) {
      if (note("back " + k, x.back(k)) >= 0) {
        house("image " + k);
      }
    }
  }

  private void sheets() {
    for (int k = 0; k < 4; k++) {
      for (int lane = 0; lane < 3; lane++) {
        x.drop(0);
        calls++;
        int came = note("read " + k + " as of " + lane, x.read(k, lane, 0, 6));
        note("torn", x.torn());
        for (int i = 0; i < came; i++) {
          note("cell " + i, x.want(i));
        }
        if (came != 0) {
          note("the last cells", x.read(k, lane, 39, 2));
        }
      }
    }
  }

  private void tape() {
    note("text", x.text());
    note("fault", x.fault());
    house("told");
  }
}
