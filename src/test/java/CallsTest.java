import java.io.PrintWriter;
import java.io.StringWriter;
import java.net.URISyntaxException;
import java.nio.file.Path;
import java.util.ArrayList;
import java.util.List;
import java.util.Map;
import java.util.Optional;
import java.util.Set;
import java.util.TreeMap;
import java.util.TreeSet;
import java.util.regex.Matcher;
import java.util.regex.Pattern;
import java.util.spi.ToolProvider;

/**
 * What the compiled class calls, as LANGUAGE.md rules it: no library but what it lists, no
 * recursion, at most eight calls deep, nothing made but by constructors, nothing that throws.
 */
public final class CallsTest {
  private static final int DEEPEST = 8;
  /** What the class uses of what LANGUAGE.md lists; it lists more. */
  private static final Set<String> LIBRARY = Set.of(
      "java/lang/Object.<init>", "java/lang/System.arraycopy", "java/lang/Math.max", "java/lang/Math.min",
      "java/lang/Integer.bitCount", "java/lang/String.length", "java/lang/String.charAt");
  private static final Pattern CLASS = Pattern.compile("^(?:public |final |static )*class (\\S+) \\{$");
  private static final Pattern METHOD = Pattern.compile("^  (?:[\\w.$\\[\\]]+ )*([\\w.$]+)\\(.*\\);$");
  private static final Pattern CALL =
      Pattern.compile("^\\s+\\d+: invoke(\\w+) .*// (?:Interface)?Method (?:([\\w/$]+)\\.)?\"?([\\w<>]+)\"?:.*$");
  private static final Pattern OTHER = Pattern.compile("^\\s+\\d+: (invokedynamic|athrow|monitorenter|new|newarray"
      + "|anewarray|multianewarray|checkcast)\\b.*$");

  /** Method to the methods of the file that it calls. */
  private static final Map<String, Set<String>> CALLS = new TreeMap<>();

  public static void main(String[] args) throws URISyntaxException {
    Optional<ToolProvider> javap = ToolProvider.findFirst("javap");
    if (javap.isEmpty()) {
      System.out.println("this JDK has no javap: what the class calls was not looked at");
    } else {
      read(listing(javap.get()));
      Due.isTrue(0, "methods were found: " + CALLS.size(), CALLS.size() > 42);
      for (String method : CALLS.keySet()) {
        goDeeper(method, new ArrayList<>());
      }
    }
    Due.end();
  }

  private static String listing(ToolProvider javap) throws URISyntaxException {
    Path folder = Path.of(ShelfWays.class.getProtectionDomain().getCodeSource().getLocation().toURI());
    List<String> words = new ArrayList<>(List.of("-c", "-p", folder.resolve("ShelfWays.class").toString()));
    for (Class<?> c : ShelfWays.class.getDeclaredClasses()) {
      words.add(folder.resolve(c.getName() + ".class").toString());
    }
    StringWriter out = new StringWriter();
    PrintWriter writer = new PrintWriter(out);
    int answer = javap.run(writer, writer, words.toArray(new String[0]));
    writer.flush();
    Due.is(0, "javap", answer, 0);
    return out.toString();
  }

  private static void read(String listing) {
    String inClass = "";
    String method = "";
    for (String line : listing.split("\\R")) {
      Matcher itsClass = CLASS.matcher(line);
      Matcher itsMethod = METHOD.matcher(line);
      if (itsClass.matches()) {
        inClass = itsClass.group(1);
      } else if (itsMethod.matches()) {
        String name = itsMethod.group(1);
        method = inClass + "." + (name.equals(inClass) ? "<init>" : name);
        CALLS.computeIfAbsent(method, m -> new TreeSet<>());
      } else {
        readCall(line, inClass, method);
      }
    }
  }

  private static void readCall(String line, String inClass, String method) {
    Matcher call = CALL.matcher(line);
    Matcher other = OTHER.matcher(line);
    if (call.matches()) {
      String ofClass = call.group(2) == null ? inClass : call.group(2);
      String called = ofClass + "." + call.group(3);
      if (ofClass.startsWith("ShelfWays")) {
        CALLS.get(method).add(called);
      } else {
        Due.isTrue(0, method + " calls " + called, LIBRARY.contains(called));
      }
    } else if (other.matches()) {
      boolean isMaking = other.group(1).startsWith("new") || other.group(1).endsWith("newarray");
      Due.isTrue(0, method + ": " + line.trim(), isMaking && method.endsWith("<init>"));
    } else {
      Due.isTrue(0, method + " calls as can be read: " + line.trim(), !line.matches("^\\s+\\d+: invoke.*"));
    }
  }

  /** Goes through all chains of calls; a recursion is told and not followed. */
  private static void goDeeper(String method, List<String> open) {
    boolean isNew = !open.contains(method);
    List<String> chain = new ArrayList<>(open);
    chain.add(method);
    Due.isTrue(0, "no recursion: " + chain, isNew);
    Due.isTrue(0, "not too deep: " + chain, chain.size() <= DEEPEST);
    if (isNew && CALLS.containsKey(method)) {
      for (String called : CALLS.get(method)) {
        goDeeper(called, chain);
      }
    }
    Due.isTrue(0, method + " is known", CALLS.containsKey(method));
  }
}
