import java.lang.reflect.Field;
import java.lang.reflect.Method;
import java.lang.reflect.Modifier;
import java.nio.file.Files;
import java.nio.file.Path;
import java.util.ArrayList;
import java.util.HashSet;
import java.util.List;
import java.util.Map;
import java.util.Set;
import java.util.TreeMap;
import java.util.TreeSet;
import java.util.regex.Matcher;
import java.util.regex.Pattern;

/** The rules of LANGUAGE.md that a program can look at; the others need a reader. */
public final class LanguageTest {
  private static final Path PROGRAM = Path.of("src/main/java/LayoutDesk.java");
  private static final Pattern METHOD_HEAD = Pattern.compile(
      "^((?: {4}){1,2})(?!(?:if|for|while|switch|do|else)\\b)(?=\\w)[^=]*?\\b(\\w+)\\(.*$");
  private static final Pattern CALL = Pattern.compile("(\\bnew )?\\b(\\w+)\\(");

  public static void main(String[] args) throws Exception {
    List<Class<?>> classes = new ArrayList<>(List.of(LayoutDesk.class.getDeclaredClasses()));
    classes.add(LayoutDesk.class);
    String text = withoutComments(Files.readString(PROGRAM));
    names();
    classes.forEach(LanguageTest::nested);
    Check.sentence("rule 11: at most some twelve classes");
    Check.same("classes", classes.size() <= 12, true);
    words(text);
    Map<String, List<String>> methods = methods(text);
    length(methods);
    depth(methods);
    Check.end();
  }

  private static String withoutComments(String text) {
    return text.replaceAll("(?s)/\\*.*?\\*/", "").replaceAll("//[^\n]*", "");
  }

  private static void names() {
    Check.sentence("rule 1: no private method bears the name of a public one");
    Set<String> seen = new HashSet<>();
    for (Method method : LayoutDesk.class.getDeclaredMethods()) {
      Check.same(method.getName() + " is the only one of its name", seen.add(method.getName()), true);
    }
  }

  private static void nested(Class<?> one) {
    Check.sentence("rules 1, 2, 5 and 11: fields, parameters, what is static");
    int modifiers = one.getModifiers();
    if (one != LayoutDesk.class) {
      Check.same(one + " is static", Modifier.isStatic(modifiers), true);
      Check.same(one + " is seen", Modifier.isPublic(modifiers) || Modifier.isProtected(modifiers),
          false);
    }
    Check.same(one + " has classes inside",
        one != LayoutDesk.class && one.getDeclaredClasses().length > 0, false);
    int fields = 0;
    for (Field field : one.getDeclaredFields()) {
      if (Modifier.isStatic(field.getModifiers())) {
        Check.same(field + " is final", Modifier.isFinal(field.getModifiers()), true);
        Check.same(field + " is a number", field.getType() == int.class, true);
      } else {
        fields++;
      }
    }
    Check.same(one + " has few fields", fields <= 20, true);
    for (Method method : one.getDeclaredMethods()) {
      Check.same(method + " has few parameters", method.getParameterCount() <= 7, true);
      Check.same(method + " stands for a lambda", method.isSynthetic(), false);
    }
  }

  private static void words(String text) {
    Check.sentence("rules 2 to 6, 12 and 13: the library and the words that are left");
    Check.same("imports", found(text, "import [^;]*"),
        Set.of("import java.util.NoSuchElementException"));
    Check.same("of the library", found(text, "\\b(Math|Integer|Long|Arrays|System|String)\\.\\w+"),
        Set.of("Math.max"));
    Check.same("words that are ruled out", found(text, "->|::|\"|\\b(java\\.(?!util\\.NoSuch)\\w+|"
        + "double|float|synchronized|assert|finally|try|catch|native|volatile|transient|var|yield|"
        + "hashCode|equals|toString|Object|Thread|protected)\\b"), Set.of());
    Check.same("throws", found(text, "throw [^;]*"), Set.of(
        "throw new IllegalArgumentException()", "throw new IllegalStateException()",
        "throw new NoSuchElementException()", "throw new IndexOutOfBoundsException()"));
  }

  private static Set<String> found(String text, String pattern) {
    Set<String> found = new TreeSet<>();
    Matcher matcher = Pattern.compile(pattern).matcher(text);
    while (matcher.find()) {
      found.add(matcher.group());
    }
    return found;
  }

  /** The lines of each method; those of one name, in several classes, stand together. */
  private static Map<String, List<String>> methods(String text) {
    Map<String, List<String>> methods = new TreeMap<>();
    List<String> open = null;
    String end = "";
    for (String line : text.split("\n")) {
      Matcher head = METHOD_HEAD.matcher(line);
      if (open != null) {
        open.add(line);
        open = line.equals(end) ? null : open;
      } else if (head.matches() && !line.endsWith(";")) {
        open = methods.computeIfAbsent(head.group(2), name -> new ArrayList<>());
        end = head.group(1) + "}";
      }
    }
    return methods;
  }

  private static void length(Map<String, List<String>> methods) {
    Check.sentence("rule 11: methods stay short (some sixty lines)");
    methods.forEach((name, lines) -> Check.same(name + " is short", lines.size() <= 60, true));
  }

  private static void depth(Map<String, List<String>> methods) {
    Check.sentence("rule 11: calls that are no recursion go at most eight deep");
    Check.same("methods are found", methods.containsKey("lay") && methods.containsKey("here"), true);
    for (String name : methods.keySet()) {
      int depth = depth(name, methods, new HashSet<>());
      Check.same(name + " goes at most eight deep, not " + depth, depth <= 8, true);
    }
  }

  private static int depth(String name, Map<String, List<String>> methods, Set<String> open) {
    if (!methods.containsKey(name) || !open.add(name)) {
      return 0;
    }
    int deepest = 0;
    for (String line : methods.get(name)) {
      Matcher call = CALL.matcher(line);
      while (call.find()) {
        deepest = Math.max(deepest, depth(call.group(2), methods, open));
      }
    }
    open.remove(name);
    return deepest + 1;
  }
}
