import java.lang.reflect.Field;
import java.lang.reflect.Method;
import java.lang.reflect.Modifier;
import java.nio.file.Files;
import java.nio.file.Path;
import java.util.ArrayList;
import java.util.Arrays;
import java.util.List;
import java.util.Set;
import java.util.TreeSet;
import java.util.regex.Matcher;
import java.util.regex.Pattern;

/** The face that the document shows, and those rules of LANGUAGE.md that can be told from the file. */
public final class LanguageTest {
  private static final String[] FACE = {
    "int feed 1", "int end 1", "int text 0", "int fault 0", "int rule 1", "int shelf 2", "int place 2",
    "int want 1", "int alter 2", "int put 1", "int cut 1", "int stand 3", "int set 2", "int add 1",
    "int drop 1", "int take 1", "int steps 1", "int runs 2", "int paid 2", "int ahead 3", "int when 2",
    "int again 0", "int order 2", "int kind 3", "int first 3", "int swap 2", "int lose 2",
    "long luck 5", "long mean 3", "int see 3", "int forget 1", "int kinds 1", "int books 1",
    "int ask 2", "int drift 3", "int keep 1", "int back 1", "int sheet 3", "int lay 3", "int read 4",
    "int torn 0", "int count 1"
  };

  public static void main(String[] args) throws Exception {
    face();
    classesInside();
    words();
    Due.end();
  }

  private static void face() throws Exception {
    Set<String> shown = new TreeSet<>();
    for (Method m : ShelfWays.class.getDeclaredMethods()) {
      if (!Modifier.isPrivate(m.getModifiers())) {
        shown.add(m.getReturnType() + " " + m.getName() + " " + m.getParameterCount());
        Due.isTrue(0, m + " is public", Modifier.isPublic(m.getModifiers()));
        Due.isTrue(0, m + " is not static", !Modifier.isStatic(m.getModifiers()));
        for (Class<?> type : m.getParameterTypes()) {
          Due.isTrue(0, m + " takes numbers", type == int.class);
        }
      }
    }
    Due.isTrue(0, "the methods are " + shown, shown.equals(new TreeSet<>(Arrays.asList(FACE))));
    Set<String> constants = new TreeSet<>();
    for (Field f : ShelfWays.class.getDeclaredFields()) {
      if (!Modifier.isPrivate(f.getModifiers())) {
        constants.add(f.getName() + " " + f.getInt(null));
      }
    }
    Set<String> due = new TreeSet<>(Arrays.asList("BAD -1", "STATE -2", "FULL -3", "NONE -4"));
    Due.isTrue(0, "the constants are " + constants, constants.equals(due));
    Due.is(0, "constructors", ShelfWays.class.getDeclaredConstructors().length, 1);
    Due.isTrue(0, "the class is final", Modifier.isFinal(ShelfWays.class.getModifiers()));
  }

  private static void classesInside() {
    Set<String> names = new TreeSet<>();
    for (String line : FACE) {
      names.add(line.split(" ")[1]);
    }
    List<Class<?>> all = new ArrayList<>(Arrays.asList(ShelfWays.class.getDeclaredClasses()));
    for (Class<?> c : all) {
      Due.isTrue(0, c + " is static", Modifier.isStatic(c.getModifiers()));
      Due.isTrue(0, c + " is not public", !Modifier.isPublic(c.getModifiers()));
    }
    all.add(ShelfWays.class);
    Due.isTrue(0, "classes: " + all.size(), all.size() <= 12);
    for (Class<?> c : all) {
      int fields = 0;
      for (Field f : c.getDeclaredFields()) {
        boolean isStatic = Modifier.isStatic(f.getModifiers());
        fields += isStatic ? 0 : 1;
        Due.isTrue(0, f + " is final", !isStatic || Modifier.isFinal(f.getModifiers()));
      }
      Due.isTrue(0, c + " has fields: " + fields, fields <= 20);
      for (Method m : c.getDeclaredMethods()) {
        Due.isTrue(0, m + " has few parameters", m.getParameterCount() <= 7);
        boolean isFace = c == ShelfWays.class && Modifier.isPublic(m.getModifiers());
        Due.isTrue(0, m + " has a name of its own", isFace || !names.contains(m.getName()));
      }
    }
  }

  private static void words() throws Exception {
    String source = new String(Files.readAllBytes(Path.of("src/main/java/ShelfWays.java")));
    for (int i = 0; i < source.length(); i++) {
      Due.isTrue(0, "a sign of 1 to 127 at " + i, source.charAt(i) > 0 && source.charAt(i) < 128);
    }
    String code = source.replaceAll("(?s)/\\*.*?\\*/", "").replaceAll("//[^\n]*", "")
        .replaceAll("\"[^\"]*\"", "\"\"");
    String[] never = {
      "\\bthrow\\b", "\\bthrows\\b", "\\btry\\b", "\\bcatch\\b", "\\bsynchronized\\b", "\\bassert\\b",
      "->", "::", "\\bimport\\b", "\\bpackage\\b", "\\bstatic\\s*\\{", "\\bdouble\\b", "\\bfloat\\b",
      "\\bInteger\\.[A-Z]", "\\bwhile\\s*\\(\\s*true", "for\\s*\\(\\s*;\\s*;", "Exact\\b"
    };
    for (String word : never) {
      Due.isTrue(0, "never " + word, !Pattern.compile(word).matcher(code).find());
    }
    newOnlyAtTheStart(code);
    methodsAreShort(code);
  }

  /** The room is small: rows are made with the object, never by a call. */
  private static void newOnlyAtTheStart(String code) {
    String[] lines = code.split("\n");
    String method = "";
    for (String line : lines) {
      Matcher head = Pattern.compile("^ +(?:public |private |static |final )*(?:\\w+(?:\\[\\])? )?(\\w+)\\([^)]*\\) \\{$")
          .matcher(line);
      if (head.find() && !Set.of("if", "for", "while", "switch").contains(head.group(1))) {
        method = head.group(1);
      }
      if (line.matches("^( {2}| {4})\\}$")) {
        method = "";
      }
      if (line.contains("new ")) {
        boolean atStart = method.isEmpty() || Character.isUpperCase(method.charAt(0));
        Due.isTrue(0, "made at the start: " + line.trim(), atStart);
      }
    }
  }

  private static void methodsAreShort(String code) {
    int since = 0;
    int number = 0;
    for (String line : code.split("\n")) {
      number++;
      if (line.matches("^( {2}| {4})[\\w<].*\\) \\{$")) {
        since = number;
      }
      if (line.matches("^( {2}| {4})\\}$")) {
        Due.isTrue(0, "a short method up to line " + number, since == 0 || number - since <= 60);
        since = 0;
      }
    }
  }
}
