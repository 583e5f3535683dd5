import java.io.IOException;
import java.lang.reflect.Method;
import java.nio.file.Files;
import java.nio.file.Path;
import java.util.List;
import java.util.regex.Matcher;
import java.util.regex.Pattern;

/** README.md holds: each call of its examples answers as it says there, and no call is left out. */
public final class ReadmeTest {
  private static final Pattern FED = Pattern.compile("for \\(char c : \"([^\"]*)\"\\.toCharArray\\(\\)\\) x\\.feed\\(c\\);");
  private static final Pattern CALL = Pattern.compile("x\\.(\\w+\\([^)]*\\)); +// (-?\\d+): .+");

  public static void main(String[] args) throws IOException {
    List<String> lines = Files.readAllLines(Path.of("README.md"));
    examples(lines);
    everyCallIsNamed(String.join("\n", lines));
    everyTestIsNamed(String.join("\n", lines));
    Due.end();
  }

  private static void examples(List<String> lines) {
    boolean isJava = false;
    int runs = 0;
    Run run = null;
    for (String line : lines) {
      if (line.startsWith("```")) {
        isJava = line.equals("```java");
        if (!isJava && run != null) {
          run.end();
          run = null;
        }
      } else if (isJava && line.equals("ShelfWays x = new ShelfWays();")) {
        run = Run.of(0, "README");
        runs++;
      } else if (isJava) {
        example(run, line);
      }
    }
    Due.isTrue(0, "README has examples", runs > 0);
  }

  private static void example(Run run, String line) {
    Matcher fed = FED.matcher(line);
    Matcher call = CALL.matcher(line);
    boolean isFed = fed.matches();
    Due.isTrue(0, "README's line can be read: " + line, run != null && (isFed || call.matches()));
    if (run != null && isFed) {
      run.fed(fed.group(1));
    } else if (run != null && call.matches()) {
      run.rows(call.group(1) + " " + call.group(2));
    }
  }

  private static void everyCallIsNamed(String readme) {
    for (Method method : ShelfWays.class.getDeclaredMethods()) {
      boolean isNamed = readme.contains("`" + method.getName() + "`");
      Due.isTrue(0, "README names " + method.getName(), (method.getModifiers() & 1) == 0 || isNamed);
    }
  }

  private static void everyTestIsNamed(String readme) throws IOException {
    try (var files = Files.list(Path.of("src/test/java"))) {
      files.map(file -> file.getFileName().toString()).filter(name -> name.endsWith("Test.java"))
          .map(name -> name.replace(".java", ""))
          .forEach(name -> Due.isTrue(0, "README names " + name, readme.contains("`" + name + "`")));
    }
  }
}
