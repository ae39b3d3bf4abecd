import java.lang.reflect.Constructor;
import java.lang.reflect.Field;
import java.lang.reflect.Method;
import java.lang.reflect.Modifier;
import java.util.Set;
import java.util.TreeSet;

/** The public face: what the document has, and nothing else that can be seen from outside. */
public final class FaceTest {
  private static final String ARGUMENT = "IllegalArgumentException";
  private static final String STATE = "IllegalStateException";
  private static final String ELEMENT = "NoSuchElementException";
  private static final Set<String> DUE = Set.of(
      "void input(int,int,int,int) throws " + ARGUMENT,
      "int type(long,int) throws " + ARGUMENT + "," + STATE,
      "void clear()",
      "int lay()",
      "int bad()",
      "int section(int,int) throws " + ARGUMENT + "," + STATE + "," + ELEMENT,
      "int put(int) throws " + ARGUMENT + "," + STATE,
      "int symbol(int) throws " + ARGUMENT + "," + STATE + "," + ELEMENT,
      "int copies() throws " + STATE,
      "int copy(int,int) throws " + ARGUMENT + "," + STATE + "," + ELEMENT,
      "void load() throws " + STATE,
      "void start() throws " + STATE,
      "int memory(int) throws IndexOutOfBoundsException");

  public static void main(String[] args) {
    Set<String> seen = new TreeSet<>();
    for (Method method : LayoutDesk.class.getDeclaredMethods()) {
      if (!Modifier.isPrivate(method.getModifiers()) && !method.isSynthetic()) {
        String text = method.toGenericString().replace("LayoutDesk.", "")
            .replaceAll("java\\.(lang|util)\\.", "");
        seen.add(text.replaceFirst("^public ", ""));
      }
    }
    Check.same("methods that are seen", seen, new TreeSet<>(DUE));
    for (Field field : LayoutDesk.class.getDeclaredFields()) {
      Check.same("field " + field.getName() + " is private",
          Modifier.isPrivate(field.getModifiers()), true);
    }
    Constructor<?>[] constructors = LayoutDesk.class.getDeclaredConstructors();
    Check.same("constructors", constructors.length, 1);
    Check.same("it is public", Modifier.isPublic(constructors[0].getModifiers()), true);
    Check.same("the class is final", Modifier.isFinal(LayoutDesk.class.getModifiers()), true);
    Check.end();
  }
}
