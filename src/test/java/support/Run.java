import java.lang.reflect.InvocationTargetException;
import java.lang.reflect.Method;
import java.util.ArrayList;
import java.util.Arrays;
import java.util.List;
import java.util.Set;
import java.util.regex.Matcher;
import java.util.regex.Pattern;

/**
 * A run of calls on a new object that tests one sentence of the document. A row is a call and the
 * answer that is due, as "put(4) BAD", or with a number of times, as "take(0) 1 x99". At the end
 * the run is done once more without its questions and without what was refused: all that later
 * calls show must be the same.
 */
final class Run {
  private static final Set<String> QUESTIONS = Set.of(
      "fault", "rule", "shelf", "place", "want", "runs", "paid", "ahead", "when", "again", "order",
      "kind", "first", "swap", "lose", "luck", "mean", "kinds", "books", "ask", "drift", "torn", "count");
  private static final Pattern ROW = Pattern.compile("(\\w+)\\(([^)]*)\\) (\\S+)(?: x(\\d+))?");
  /** An object is used for at most so many calls. */
  private static final int MOST_CALLS = 512;

  private record Call(String name, int[] numbers) {}

  private final int promise;
  private final String sentence;
  private final ShelfWays object = new ShelfWays();
  private final List<Call> changes = new ArrayList<>();
  private int calls = 0;
  private int mostCalls = MOST_CALLS;
  private boolean textRefused = false;

  private Run(int promise, String sentence) {
    this.promise = promise;
    this.sentence = sentence;
  }

  static Run of(int promise, String sentence) {
    return new Run(promise, sentence);
  }

  /** What the document frees behind the 512th call is asked for on purpose. */
  Run beyondTheLastCall() {
    mostCalls = Integer.MAX_VALUE;
    return this;
  }

  /** The bytes are fed. */
  Run fed(String bytes) {
    for (int i = 0; i < bytes.length(); i++) {
      answerOf(new Call("feed", new int[] {bytes.charAt(i)}));
    }
    return this;
  }

  /** The bytes are fed, and text() is to take them. */
  Run told(String bytes) {
    fed(bytes);
    long answer = answerOf(new Call("text", new int[0]));
    Due.isTrue(promise, sentence + ": text of \"" + bytes + "\" is taken", answer >= 0);
    return this;
  }

  /** The bytes are fed, and text() and fault() are to answer so. */
  Run text(String bytes, long answer, long fault) {
    fed(bytes);
    due("text of \"" + bytes + "\"", new Call("text", new int[0]), answer);
    due("fault of \"" + bytes + "\"", new Call("fault", new int[0]), fault);
    return due("count(2)", new Call("count", new int[] {2}), 0);
  }

  Run rows(String... rows) {
    for (String row : rows) {
      Matcher parts = ROW.matcher(row);
      if (!parts.matches()) {
        throw new IllegalArgumentException("no row: " + row);
      }
      String inside = parts.group(2).trim();
      int[] numbers = inside.isEmpty() ? new int[0]
          : Arrays.stream(inside.split(",")).mapToInt(n -> (int) number(n.trim())).toArray();
      int times = parts.group(4) == null ? 1 : Integer.parseInt(parts.group(4));
      for (int i = 0; i < times; i++) {
        due(row, new Call(parts.group(1), numbers), number(parts.group(3)));
      }
    }
    return this;
  }

  private static long number(String told) {
    switch (told) {
      case "BAD": return Due.BAD;
      case "STATE": return Due.STATE;
      case "FULL": return Due.FULL;
      case "NONE": return Due.NONE;
      case "LEAST": return Integer.MIN_VALUE;
      case "GREATEST": return Integer.MAX_VALUE;
      default: return Long.parseLong(told);
    }
  }

  private Run due(String row, Call call, long want) {
    Due.is(promise, sentence + ": " + row, answerOf(call), want);
    return this;
  }

  /** The row is answered by anything but BAD. */
  Run notBad(String call) {
    Matcher parts = ROW.matcher(call + " 0");
    parts.matches();
    int[] numbers = Arrays.stream(parts.group(2).split(",")).mapToInt(n -> (int) number(n.trim())).toArray();
    long answer = answerOf(new Call(parts.group(1), numbers));
    Due.isTrue(promise, sentence + ": " + call + " is not BAD", answer != Due.BAD);
    return this;
  }

  private long answerOf(Call call) {
    calls++;
    long answer = invoke(object, call);
    boolean isRefusedText = call.name.equals("text") && answer < 0;
    textRefused |= isRefusedText;
    if (isRefusedText) {
      // A refused text still empties THE TAPE.
      changes.add(new Call("end", new int[] {0}));
    } else if (answer >= 0 && !QUESTIONS.contains(call.name)) {
      changes.add(call);
    }
    return answer;
  }

  private static long invoke(ShelfWays x, Call call) {
    Class<?>[] types = new Class<?>[call.numbers.length];
    Arrays.fill(types, int.class);
    Object[] numbers = Arrays.stream(call.numbers).boxed().toArray();
    try {
      Method method = ShelfWays.class.getMethod(call.name, types);
      return ((Number) method.invoke(x, numbers)).longValue();
    } catch (InvocationTargetException e) {
      System.out.println(call.name + Arrays.toString(call.numbers) + " threw " + e.getCause());
      return Long.MIN_VALUE;
    } catch (ReflectiveOperationException e) {
      throw new IllegalArgumentException("no call: " + call.name, e);
    }
  }

  /** Questions and refused calls changed nothing (but THE TAPE, by a text that was refused). */
  void end() {
    ShelfWays twin = new ShelfWays();
    for (Call call : changes) {
      invoke(twin, call);
    }
    String[] shown = Reveal.of(object, !textRefused);
    String[] due = Reveal.of(twin, !textRefused);
    Due.isTrue(promise, sentence + ": all is as without what was asked or refused\n" + firstOther(shown[1], due[1]),
        shown[1].equals(due[1]));
    calls += Integer.parseInt(shown[0]);
    Due.isTrue(promise, sentence + ": the test takes " + calls + " calls", calls <= mostCalls);
  }

  private static String firstOther(String shown, String due) {
    String[] left = shown.split("\n");
    String[] right = due.split("\n");
    for (int i = 0; i < Math.min(left.length, right.length); i++) {
      if (!left[i].equals(right[i])) {
        return "  row " + i + " shows " + left[i] + ", due is " + right[i];
      }
    }
    return "  " + left.length + " rows, due are " + right.length;
  }
}
