import java.io.IOException;
import java.lang.reflect.Constructor;
import java.lang.reflect.Field;
import java.lang.reflect.Method;
import java.lang.reflect.Modifier;
import java.nio.file.Files;
import java.nio.file.Path;
import java.util.Arrays;
import java.util.Set;
import java.util.TreeSet;
import java.util.regex.Matcher;
import java.util.regex.Pattern;

/** The public face of the document, and those rules of LANGUAGE.md that a reader of text can see. */
public final class FaceTest {
  private static final String[] METHODS = {
    "appendOld(int, boolean)", "appendNew(int, boolean)", "setNew(int, int)", "clear()",
    "oldLength()", "newLength()", "newValue(int)", "build(int)", "blockOldStart(int)",
    "blockNewStart(int)", "blockLength(int)", "blockOf(int)", "predictedAddress(int)",
    "predictedValue(int)", "correctionCount()", "correctionIndex(int)", "literalCount()",
    "patchSize()", "unpredictedSize()", "copyCount()", "copyStep(int)", "isDropped(int)",
    "inPlaceSize()", "memoryAfter(int, int)", "patchedValue(int)"};
  private static final String[] FORBIDDEN = {
    "throw", "throws", "try", "catch", "finally", "synchronized", "assert", "package", "protected",
    "native", "volatile", "transient"};
  private static final Set<String> IMPORTS = Set.of("java.util.ArrayList", "java.util.List",
      "java.util.Arrays", "java.util.Iterator");

  private FaceTest() {
  }

  public static void main(String[] args) throws IOException {
    constants();
    constructors();
    methods();
    nestedClasses();
    source();
    Check.end("FaceTest");
  }

  private static void constants() {
    Check.due("BAD_VALUE", RelocatingPatch.BAD_VALUE, -10001);
    Check.due("FULL", RelocatingPatch.FULL, -10002);
    Check.due("NO_SUCH_INDEX", RelocatingPatch.NO_SUCH_INDEX, -10003);
    Check.due("NOT_BUILT", RelocatingPatch.NOT_BUILT, -10004);
    Check.due("NONE", RelocatingPatch.NONE, -10005);
    Set<String> open = new TreeSet<>();
    for (Field field : RelocatingPatch.class.getDeclaredFields()) {
      int modifiers = field.getModifiers();
      if (!Modifier.isPrivate(modifiers)) {
        open.add(field.getName());
        Check.holds(field.getName() + " is a constant", Modifier.isPublic(modifiers)
            && Modifier.isStatic(modifiers) && Modifier.isFinal(modifiers));
      }
      Check.holds(field.getName() + " is no static state",
          !Modifier.isStatic(modifiers) || Modifier.isFinal(modifiers));
    }
    Check.holds("the constants are those of the document", open.equals(new TreeSet<>(
        Arrays.asList("BAD_VALUE", "FULL", "NO_SUCH_INDEX", "NOT_BUILT", "NONE"))));
  }

  private static void constructors() {
    Check.holds("the class is public and final",
        Modifier.isPublic(RelocatingPatch.class.getModifiers())
            && Modifier.isFinal(RelocatingPatch.class.getModifiers()));
    Constructor<?>[] all = RelocatingPatch.class.getDeclaredConstructors();
    Check.due("constructors", all.length, 1);
    Check.holds("the constructor is public", Modifier.isPublic(all[0].getModifiers()));
    Check.due("its parameters", all[0].getParameterCount(), 0);
  }

  private static void methods() {
    Set<String> open = new TreeSet<>();
    Set<String> openNames = new TreeSet<>();
    Set<String> closedNames = new TreeSet<>();
    for (Method method : RelocatingPatch.class.getDeclaredMethods()) {
      Check.holds(method + " is no lambda", !method.getName().startsWith("lambda$"));
      if (Modifier.isPrivate(method.getModifiers())) {
        closedNames.add(method.getName());
      } else {
        open.add(signature(method));
        openNames.add(method.getName());
        Check.holds(method.getName() + " is public", Modifier.isPublic(method.getModifiers()));
        Check.holds(method.getName() + " answers an int", method.getReturnType() == int.class);
      }
      Check.holds(method.getName() + " has at most 7 parameters", method.getParameterCount() <= 7);
    }
    Check.holds("the methods are those of the document",
        open.equals(new TreeSet<>(Arrays.asList(METHODS))));
    closedNames.retainAll(openNames);
    Check.holds("no private method bears a public name", closedNames.isEmpty());
  }

  private static String signature(Method method) {
    String types = Arrays.toString(method.getParameterTypes());
    return method.getName() + "(" + types.substring(1, types.length() - 1) + ")";
  }

  private static void nestedClasses() {
    Class<?>[] all = RelocatingPatch.class.getDeclaredClasses();
    Check.holds("at most twelve classes", all.length < 12);
    for (Class<?> nested : all) {
      Check.holds(nested + " is static", Modifier.isStatic(nested.getModifiers()));
      Check.holds(nested + " is not open", !Modifier.isPublic(nested.getModifiers()));
      Check.holds(nested + " has at most 20 fields", nested.getDeclaredFields().length <= 20);
      for (Method method : nested.getDeclaredMethods()) {
        Check.holds(method + " is no lambda", !method.getName().startsWith("lambda$"));
        Check.holds(method + " has at most 7 parameters", method.getParameterCount() <= 7);
      }
    }
  }

  private static void source() throws IOException {
    String text = Files.readString(Path.of("src/main/java/RelocatingPatch.java"));
    String code = text.replaceAll("(?s)/\\*.*?\\*/", " ").replaceAll("//[^\n]*", " ");
    for (String word : FORBIDDEN) {
      Check.holds("no " + word, !Pattern.compile("\\b" + word + "\\b").matcher(code).find());
    }
    Matcher imports = Pattern.compile("\\bimport\\s+([^;]*);").matcher(code);
    while (imports.find()) {
      Check.holds("import " + imports.group(1), IMPORTS.contains(imports.group(1).trim()));
    }
    Check.holds("no method reference", !code.contains("::"));
    Check.holds("no Exact function", !Pattern.compile("Exact\\s*\\(").matcher(code).find());
    Check.holds("signs are 1 to 127", text.chars().allMatch(c -> c >= 1 && c <= 127));
  }
}
