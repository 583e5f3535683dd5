import java.lang.reflect.Method;
import java.util.ArrayList;
import java.util.List;
import java.util.Random;

/** Many runs of calls by chance (always the same ones), each answer against the model's. */
public final class ModelTest {
  private static final String[] CALLS = {
    "feed 1", "end 1", "text 0", "fault 0", "rule 1", "shelf 2", "place 2", "want 1",
    "alter 2", "put 1", "cut 1", "stand 3", "set 2", "add 1", "drop 1", "take 1",
    "steps 1", "runs 2", "paid 2", "ahead 3", "when 2", "again 0",
    "order 2", "kind 3", "first 3", "swap 2", "lose 2", "luck 5", "mean 3",
    "see 3", "forget 1", "kinds 1", "books 1", "ask 2", "drift 3",
    "keep 1", "back 1", "sheet 3", "lay 3", "read 4", "torn 0", "count 1"
  };
  private static final String[] WORDS = {
    "stay;", "step;", "front;", "often;", "books 5;", "books 6;", "books 3;", "want 1 2 0;",
    "want 2 1;", "want 0 3 1 3;", "want 5;", "want;", "books", "want", " ", ";", "7", "12", "123",
    "stays;", "#", "want 4 0 4 2;", "want 1 1 0 2 1 0 2;", "front ;", "often", "want6;"
  };

  public static void main(String[] args) throws Exception {
    int runs = args.length > 0 ? Integer.parseInt(args[0]) : 400;
    Random random = new Random(20261118);
    for (int run = 0; run < runs; run++) {
      oneRun(run, random);
    }
    Due.end();
  }

  private static void oneRun(int run, Random random) throws Exception {
    ShelfWays x = new ShelfWays();
    Model model = new Model();
    List<String> told = new ArrayList<>();
    int calls = 0;
    while (calls < 300) {
      int chance = random.nextInt(40);
      if (chance == 0 || calls == 0) {
        calls += text(x, model, told, random);
      } else {
        String[] call = CALLS[random.nextInt(CALLS.length)].split(" ");
        int[] a = arguments(call[0], Integer.parseInt(call[1]), model, random);
        calls++;
        if (!same(run, x, model, told, call[0], a)) {
          return;
        }
      }
    }
  }

  private static int text(ShelfWays x, Model model, List<String> told, Random random) throws Exception {
    StringBuilder text = new StringBuilder();
    for (int i = random.nextInt(9); i >= 0; i--) {
      text.append(WORDS[random.nextInt(random.nextInt(3) == 0 ? WORDS.length : 12)]);
    }
    for (int i = 0; i < text.length(); i++) {
      same(0, x, model, told, "feed", new int[] {text.charAt(i)});
    }
    same(0, x, model, told, "text", new int[0]);
    same(0, x, model, told, "fault", new int[0]);
    return text.length() + 2;
  }

  private static boolean same(int run, ShelfWays x, Model model, List<String> told, String name, int[] a)
      throws Exception {
    StringBuilder call = new StringBuilder(name).append('(');
    Class<?>[] types = new Class<?>[a.length];
    Object[] values = new Object[a.length];
    for (int i = 0; i < a.length; i++) {
      types[i] = int.class;
      values[i] = a[i];
      call.append(i == 0 ? "" : ", ").append(a[i]);
    }
    call.append(')');
    Method method = ShelfWays.class.getMethod(name, types);
    long due = model.call(name, a);
    long got = ((Number) method.invoke(x, values)).longValue();
    told.add(call + " " + got);
    Due.is(0, "run " + run + ": " + (got == due ? call : told), got, due);
    return got == due;
  }

  /** Mostly numbers that fit, now and then any. */
  private static int[] arguments(String name, int many, Model model, Random random) {
    int[] a = new int[many];
    for (int i = 0; i < many; i++) {
      a[i] = random.nextInt(30) == 0 ? random.nextInt(260) - 30 : random.nextInt(bound(name, i, model)) + low(name, i);
      if (random.nextInt(200) == 0) {
        a[i] = Due.WILD[random.nextInt(Due.WILD.length)];
      }
    }
    if (name.equals("drift")) {
      a[0] = random.nextInt();
    }
    if ((name.equals("shelf") || name.equals("order")) && random.nextInt(3) > 0) {
      a[1] = 10 + random.nextInt(6) + (name.equals("shelf") ? random.nextInt(2) * 10 : 0);
    }
    return a;
  }

  private static int low(String name, int i) {
    return name.equals("read") && i == 2 ? -1 : 0;
  }

  private static int bound(String name, int i, Model model) {
    int books = model.w.books;
    int shelves = Math.max(1, model.w.shelves.size());
    int wants = Math.max(1, model.w.wants.size());
    String key = name + " " + i;
    switch (key) {
      case "feed 0": return 128;
      case "end 0": return model.tape.length() + 1;
      case "rule 0": case "count 0": return 6;
      case "shelf 1": case "order 1": case "sheet 1": return 3;
      case "runs 1": return 4;
      case "kind 2": case "first 2": case "swap 1": case "lose 1": case "luck 4": case "mean 2":
      case "ask 1": case "drift 2": case "keep 0": case "back 0": return 2;
      case "place 1": case "stand 1": case "stand 2": case "set 1": case "add 0": case "take 0":
      case "ahead 2": case "when 1": case "luck 2": case "see 2": return books;
      case "want 0": case "set 0": case "books 0": case "ask 0": return wants;
      case "alter 1": case "put 0": return 4;
      case "cut 0": return model.w.shelves.size() + 1;
      case "drop 0": return model.w.wants.size() + 1;
      case "steps 0": return 101;
      case "runs 0": case "paid 1": case "ahead 1": case "kind 1": case "first 1": return 201;
      case "swap 0": case "lose 0": return 201;
      case "luck 0": case "mean 0": return 11;
      case "luck 3": case "mean 1": return 9;
      case "see 0": return 41;
      case "forget 0": return model.seen.size() + 1;
      case "drift 1": return 201;
      case "sheet 0": case "lay 0": case "read 0": return 4;
      case "sheet 2": return 41;
      case "lay 1": return 12;
      case "lay 2": return books + 1;
      case "read 1": return 3;
      case "read 2": return 8;
      case "read 3": return 9;
      default: return shelves;
    }
  }
}
