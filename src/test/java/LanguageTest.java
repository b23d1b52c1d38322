import java.io.IOException;
import java.lang.reflect.Constructor;
import java.lang.reflect.Executable;
import java.lang.reflect.Field;
import java.lang.reflect.Method;
import java.lang.reflect.Modifier;
import java.nio.file.Files;
import java.nio.file.Path;
import java.util.ArrayList;
import java.util.List;
import java.util.Set;
import java.util.regex.Matcher;
import java.util.regex.Pattern;

/**
 * The rules of LANGUAGE.md that can be read off the class's text and members. Where a rule allows
 * what the class has no need of (arrays of two dimensions, objects made in a call), the test does not.
 */
public final class LanguageTest {
  private static final Path FILE = Path.of("src/main/java/EntryTables.java");

  private static final Set<String> EXCEPTIONS = Set.of(
      "IllegalStateException", "IllegalArgumentException", "IndexOutOfBoundsException");

  /** Library classes that the class may name, and what it may call of them. */
  private static final String LIBRARY =
      "Arrays[.](fill|copyOf|copyOfRange)|Math[.](floorMod|floorDiv|min|max|abs)"
          + "|Integer[.](bitCount|compare|min|max)|System[.]arraycopy|java[.]util[.]Arrays";

  private static int wrong = 0;

  private static void rule(int number, boolean holds, String what) {
    if (!holds) {
      wrong++;
      System.out.println("rule " + number + ": " + what);
    }
  }

  /** The program without its comments and with its texts emptied. */
  private static String code(String text) {
    return text
        .replaceAll("(?s)/[*].*?[*]/", "")
        .replaceAll("//[^\n]*", "")
        .replaceAll("\"[^\"\n]*\"", "\"\"");
  }

  private static void noWords(int number, String code, String... words) {
    for (String word : words) {
      rule(number, !Pattern.compile("\\b" + word + "\\b").matcher(code).find(), "no " + word);
    }
  }

  private static void textRules(String text) {
    String code = code(text);
    rule(1, code.split("\\bpublic (final )?class\\b", -1).length == 2, "one public class");
    rule(1, !Pattern.compile("^\\s*package\\b", Pattern.MULTILINE).matcher(code).find(), "no package");
    rule(2, !code.contains("->") && !code.contains("::"), "no lambda, no method reference");
    rule(3, text.chars().allMatch(c -> c < 128), "plain characters");
    rule(5, !Pattern.compile("\\bstatic\\s*[{]").matcher(code).find(), "no static initialiser");
    noWords(6, code, "finally", "synchronized", "assert", "hashCode", "toString", "getMessage");
    noWords(13, code, "Thread", "Random", "Runtime", "Object", "native", "volatile");
    rule(10, !Pattern.compile("\"\"\\s*[+]|[+]\\s*\"\"").matcher(code).find(), "no joining of texts by +");
    libraryRule(code);
    throwRule(code);
    newRule(code);
  }

  private static void libraryRule(String code) {
    String classes = "java[.]\\w+|Arrays|Math|Integer|Long|System|List|ArrayList|String";
    Matcher used = Pattern.compile("\\b((?:" + classes + ")[.]\\w+)").matcher(code);
    while (used.find()) {
      rule(4, used.group(1).matches(LIBRARY), "no " + used.group(1));
    }
  }

  private static void throwRule(String code) {
    Matcher thrown = Pattern.compile("\\bthrow\\b([^;]*);").matcher(code);
    while (thrown.find()) {
      Matcher form = Pattern.compile("\\s+new (\\w+)[(](\"\")?[)]").matcher(thrown.group(1));
      rule(6, form.matches() && EXCEPTIONS.contains(form.group(1)), "no throw" + thrown.group(1));
    }
  }

  /** Rows are made where objects are made; a call makes its exception alone. */
  private static void newRule(String code) {
    for (String line : code.split("\n")) {
      boolean isRow = line.matches("\\s*(private final \\S+ \\w+|\\w+\\[i\\]) = new .*");
      rule(12, !line.contains(" new ") || isRow || line.contains("throw new "), "makes an object:" + line);
    }
  }

  /** In this program a method begins, and ends at its brace, two blanks from the left or four. */
  private static void shortMethods(List<String> lines) {
    int begin = 0;
    for (int i = 0; i < lines.size(); i++) {
      String line = lines.get(i);
      if (line.matches(" {2}(  )?[a-zA-Z].*[({].*") && !line.contains(";")) {
        begin = i;
      } else if (line.matches(" {2}(  )?[}]")) {
        rule(11, i - begin < 60, "a long method ends on line " + (i + 1));
      }
    }
  }

  private static List<Class<?>> allClasses() {
    List<Class<?>> all = new ArrayList<>();
    all.add(EntryTables.class);
    for (int i = 0; i < all.size(); i++) {
      all.addAll(List.of(all.get(i).getDeclaredClasses()));
    }
    return all;
  }

  private static boolean isAllowed(Class<?> type) {
    Class<?> of = type.isArray() ? type.getComponentType() : type;
    return Set.of(int.class, long.class, boolean.class, void.class).contains(of)
        || allClasses().contains(of);
  }

  private static void membersOf(Class<?> one) {
    int fields = 0;
    for (Field f : one.getDeclaredFields()) {
      boolean isStatic = Modifier.isStatic(f.getModifiers());
      rule(3, isAllowed(f.getType()), "no field " + f);
      boolean isConstant = Modifier.isFinal(f.getModifiers()) && f.getType() == int.class;
      rule(5, !isStatic || isConstant, "no static " + f);
      fields += isStatic ? 0 : 1;
    }
    rule(11, fields <= 20, "20 fields at most: " + one);
    for (Method m : one.getDeclaredMethods()) {
      rule(3, isAllowed(m.getReturnType()), "no type of " + m);
      parametersOf(m);
    }
    for (Constructor<?> c : one.getDeclaredConstructors()) {
      parametersOf(c);
    }
  }

  private static void parametersOf(Executable method) {
    rule(11, method.getParameterCount() <= 7, "seven parameters at most: " + method);
    for (Class<?> type : method.getParameterTypes()) {
      rule(3, isAllowed(type), "no type of " + method);
    }
  }

  private static void classRules() {
    List<Class<?>> all = allClasses();
    rule(11, all.size() <= 12, "12 classes at most");
    for (Class<?> one : all) {
      membersOf(one);
      int of = one.getModifiers();
      rule(1, one == EntryTables.class || (Modifier.isStatic(of) && Modifier.isPrivate(of)),
          "a class inside is private and static: " + one);
    }
  }

  public static void main(String[] args) throws IOException {
    textRules(Files.readString(FILE));
    shortMethods(Files.readAllLines(FILE));
    classRules();
    System.out.println(wrong == 0 ? "the rules hold" : wrong + " faults of the language");
    if (wrong != 0) {
      System.exit(1);
    }
  }
}
