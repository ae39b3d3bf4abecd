import java.lang.reflect.Method;
import java.lang.reflect.Modifier;
import java.nio.file.Files;
import java.nio.file.Path;
import java.util.List;
import java.util.regex.Matcher;
import java.util.regex.Pattern;

/** README.md tells every call of the class with what it throws, and its example answers as told. */
public final class ReadmeTest {
  private static final Pattern EXAMPLE = Pattern.compile(
      "desk\\.(\\w+)\\(([^)]*)\\);\\s*(?://\\s*(\\S+?),?(?:\\s.*)?)?");
  private static final int CALLS = 13;
  /** Fewer would mean that the example is no longer read as it is written. */
  private static final int LEAST_EXAMPLES = 20;

  public static void main(String[] args) throws Exception {
    List<String> lines = Files.readAllLines(Path.of("README.md"));
    everyCall(lines);
    example(lines);
    Check.end();
  }

  private static void everyCall(List<String> lines) {
    int calls = 0;
    for (Method method : LayoutDesk.class.getDeclaredMethods()) {
      if (Modifier.isPublic(method.getModifiers())) {
        calls++;
        oneCall(method, lines);
      }
    }
    Check.same("public calls", calls, CALLS);
  }

  private static void oneCall(Method method, List<String> lines) {
    String begin = "| `" + method.getReturnType() + " " + method.getName() + "(";
    String row = lines.stream().filter(line -> line.startsWith(begin)).findFirst().orElse("");
    Check.same("README.md tells " + method.getName(), row.isEmpty(), false);
    for (String each : new String[] {"IllegalArgument", "IllegalState", "NoSuchElement",
        "IndexOutOfBounds"}) {
      boolean due = method.toGenericString().contains(each);
      Check.same(method.getName() + " is told with " + each, row.contains(each), due);
    }
  }

  private static void example(List<String> lines) throws Exception {
    LayoutDesk desk = new LayoutDesk();
    int examples = 0;
    for (String line : lines) {
      Matcher call = EXAMPLE.matcher(line.trim());
      if (call.matches()) {
        examples++;
        oneExample(desk, call.group(1), call.group(2), call.group(3));
      }
    }
    Check.same("examples enough", examples >= LEAST_EXAMPLES, true);
  }

  private static void oneExample(LayoutDesk desk, String name, String arguments, String told)
      throws Exception {
    String[] parts = arguments.isEmpty() ? new String[0] : arguments.split(",\\s*");
    long[] numbers = new long[parts.length];
    for (int i = 0; i < parts.length; i++) {
      numbers[i] = Long.decode(parts[i].replace("L", ""));
    }
    Object answer = called(desk, name, numbers);
    if (name.equals("type")) {
      Check.same("characters of type(" + arguments + ")", numbers[0], Check.packed(told));
      Check.same("number of characters of " + told, numbers[1], told.length());
    } else if (answer != null) {
      Check.same("README.md: " + name + "(" + arguments + ")", answer.toString(), told);
    }
  }

  private static Object called(LayoutDesk desk, String name, long[] numbers) throws Exception {
    for (Method method : LayoutDesk.class.getMethods()) {
      if (method.getName().equals(name)) {
        Object[] given = new Object[numbers.length];
        for (int i = 0; i < numbers.length; i++) {
          boolean isLong = method.getParameterTypes()[i] == long.class;
          given[i] = isLong ? (Object) numbers[i] : (Object) (int) numbers[i];
        }
        return method.invoke(desk, given);
      }
    }
    throw new IllegalStateException("no call " + name);
  }
}
