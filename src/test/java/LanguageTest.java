import java.io.IOException;
import java.lang.reflect.Constructor;
import java.lang.reflect.Field;
import java.lang.reflect.Method;
import java.lang.reflect.Modifier;
import java.nio.file.Files;
import java.nio.file.Path;
import java.util.ArrayList;
import java.util.Arrays;
import java.util.HashSet;
import java.util.List;
import java.util.Set;
import java.util.regex.Matcher;
import java.util.regex.Pattern;

/**
 * Those rules of LANGUAGE.md that can be seen in the text of the class or in its members. Where
 * the class needs less than a rule leaves it, the test may ask for that: no text, no list.
 */
public final class LanguageTest {
  private static final Path FILE = Path.of("src/main/java/RelocatingPatch.java");
  private static final int MOST_LINES_OF_A_METHOD = 60;
  private static final Set<String> FORBIDDEN = Set.of("throw", "throws", "try", "catch", "finally",
      "synchronized", "assert", "package", "import", "protected", "native", "volatile", "transient",
      "equals", "hashCode", "toString", "getClass", "finalize");
  private static final Set<String> LIBRARY = Set.of("Math.max", "Math.min", "Math.abs",
      "System.arraycopy", "Arrays.fill", "Arrays.copyOf", "Arrays.copyOfRange");
  private static final Set<Class<?>> PLAIN_TYPES = Set.of(void.class, int.class, long.class,
      boolean.class, char.class, byte.class, short.class);

  private final String text;
  private final String code;
  private final List<Class<?>> classes = new ArrayList<>();

  private LanguageTest() throws IOException {
    text = Files.readString(FILE);
    code = text.replaceAll("(?s)/\\*.*?\\*/", " ").replaceAll("//[^\n]*", " ");
    classes.add(RelocatingPatch.class);
    classes.addAll(Arrays.asList(RelocatingPatch.class.getDeclaredClasses()));
  }

  public static void main(String[] args) throws IOException {
    LanguageTest test = new LanguageTest();
    test.names();
    test.nestedClasses();
    test.types();
    test.library();
    test.staticFields();
    test.words();
    test.loops();
    test.sizes();
    test.newObjects();
    Check.end("LanguageTest");
  }

  // rule 1: "No private method bears the name of a public one"
  private void names() {
    Set<String> open = new HashSet<>();
    Set<String> closed = new HashSet<>();
    for (Class<?> one : classes) {
      for (Method method : one.getDeclaredMethods()) {
        (Modifier.isPublic(method.getModifiers()) ? open : closed).add(method.getName());
      }
    }
    closed.retainAll(open);
    Check.holds("1: " + closed + " are names of public methods too", closed.isEmpty());
  }

  // rules 1, 2 and 11
  private void nestedClasses() {
    Check.holds("11: at most twelve classes", classes.size() <= 12);
    for (Class<?> nested : classes.subList(1, classes.size())) {
      int modifiers = nested.getModifiers();
      Check.holds("2: " + nested + " is static", Modifier.isStatic(modifiers));
      Check.holds("1: " + nested + " is private", Modifier.isPrivate(modifiers));
      Check.due("2: classes in " + nested, nested.getDeclaredClasses().length, 0);
    }
    Check.due("2: classes in the text", count("\\b(class|record|enum|interface)\\b"),
        classes.size());
    Check.due("2: lambdas", count("->"), 0);
    Check.due("2: method references", count("::"), 0);
    Check.due("2: anonymous classes", count("\\bnew\\s+\\w+\\s*\\([^)]*\\)\\s*\\{"), 0);
  }

  // rule 3: numbers, arrays of them, own classes
  private void types() {
    for (Class<?> one : classes) {
      for (Field field : one.getDeclaredFields()) {
        type(field.toString(), field.getType());
      }
      for (Constructor<?> maker : one.getDeclaredConstructors()) {
        Check.due("3: parameters of " + maker, maker.getParameterCount(), 0);
      }
      for (Method method : one.getDeclaredMethods()) {
        type(method.toString(), method.getReturnType());
        for (Class<?> parameter : method.getParameterTypes()) {
          type(method.toString(), parameter);
        }
        Check.holds("11: " + method + " has at most 7 parameters", method.getParameterCount() <= 7);
      }
    }
    Check.due("3: texts", count("[\"']"), 0);
  }

  private void type(String where, Class<?> type) {
    boolean fine = PLAIN_TYPES.contains(type) || classes.contains(type)
        || type.isArray() && PLAIN_TYPES.contains(type.getComponentType());
    Check.holds("3: " + where + " uses " + type, fine);
  }

  // rule 4: "only what stands here", and so rule 13 too
  private void library() {
    Set<String> own = new HashSet<>();
    for (Class<?> one : classes) {
      own.add(one.getSimpleName());
    }
    Matcher calls = Pattern.compile("\\b([A-Z]\\w*)\\s*\\.\\s*(\\w+)").matcher(code);
    while (calls.find()) {
      String call = calls.group(1) + "." + calls.group(2);
      Check.holds("4: " + call, LIBRARY.contains(call));
    }
    Matcher capitals = Pattern.compile("\\b([A-Z][a-z]\\w*)").matcher(code);
    while (capitals.find()) {
      String name = capitals.group(1);
      Check.holds("4: " + name, own.contains(name) || LIBRARY.stream()
          .anyMatch(call -> call.startsWith(name + ".")));
    }
    Check.due("4: functions that throw", count("Exact\\s*\\("), 0);
  }

  // rule 5
  private void staticFields() {
    for (Class<?> one : classes) {
      for (Field field : one.getDeclaredFields()) {
        if (Modifier.isStatic(field.getModifiers())) {
          Check.holds("5: " + field + " is final", Modifier.isFinal(field.getModifiers()));
          Check.holds("5: " + field + " is a number", PLAIN_TYPES.contains(field.getType()));
        }
      }
    }
    Check.due("5: static initialisers", count("\\bstatic\\s*\\{"), 0);
  }

  // rule 6
  private void words() {
    for (String word : FORBIDDEN) {
      Check.due("6: " + word, count("\\b" + word + "\\b"), 0);
    }
    Check.holds("signs are 1 to 127", text.chars().allMatch(c -> c >= 1 && c <= 127));
  }

  // rule 9: "Every loop has an end that can be seen from its own lines"
  private void loops() {
    Check.due("9: while (true)", count("\\bwhile\\s*\\(\\s*true"), 0);
    Check.due("9: for without a bound", count("\\bfor\\s*\\([^;]*;\\s*;"), 0);
    Check.due("9: do", count("\\bdo\\b"), 0);
  }

  // rule 11
  private void sizes() {
    for (Class<?> one : classes) {
      long fields = Arrays.stream(one.getDeclaredFields())
          .filter(field -> !Modifier.isStatic(field.getModifiers())).count();
      Check.holds("11: " + one + " has at most 20 fields", fields <= 20);
    }
    for (List<String> method : methods()) {
      Check.holds("11: short: " + method.get(0).trim(), method.size() <= MOST_LINES_OF_A_METHOD);
    }
  }

  // rule 12 leaves more, but a room that never grows needs no counting
  private void newObjects() {
    int made = 0;
    for (List<String> method : methods()) {
      boolean constructor = method.get(0).matches("\\s*(public )?[A-Z]\\w*\\(.*");
      long here = method.stream().filter(line -> line.matches(".*\\bnew\\b.*")).count();
      made += here;
      Check.holds("12: makes no object: " + method.get(0).trim(), constructor || here == 0);
    }
    Check.due("12: all objects are made in methods", count("\\bnew\\b"), made);
    Check.due("12: copies of arrays", count("\\b(clone|copyOf|copyOfRange)\\b"), 0);
  }

  /** The lines of each method, from the one with its name to the one with its last brace. */
  private List<List<String>> methods() {
    List<List<String>> all = new ArrayList<>();
    Pattern head = Pattern.compile("( *)(?!.*\\bclass\\b)[\\w\\[\\] ]*\\w+\\([^;]*\\) \\{");
    String indent = null;
    for (String line : code.split("\n")) {
      Matcher matcher = head.matcher(line);
      if (indent == null && matcher.matches()) {
        indent = matcher.group(1);
        all.add(new ArrayList<>());
      }
      if (indent != null) {
        all.get(all.size() - 1).add(line);
        indent = line.equals(indent + "}") ? null : indent;
      }
    }
    int declared = 0;
    for (Class<?> one : classes) {
      declared += one.getDeclaredMethods().length + one.getDeclaredConstructors().length;
    }
    Check.due("methods in the text", all.size(), declared);
    return all;
  }

  private int count(String pattern) {
    Matcher matcher = Pattern.compile(pattern).matcher(code);
    int count = 0;
    while (matcher.find()) {
      count++;
    }
    return count;
  }
}
