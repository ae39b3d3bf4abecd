import java.lang.reflect.Constructor;
import java.lang.reflect.Field;
import java.lang.reflect.Method;
import java.lang.reflect.Modifier;
import java.util.Set;
import java.util.TreeSet;

/** The public face: what the document has, and nothing else that can be seen from outside. */
public final class FaceTest {
  private static final Set<String> DUE = Set.of(
      "void input(int,int,int,int)", "int type(long,int)", "void clear()", "int lay()",
      "int bad()", "int section(int,int)", "int put(int)", "int symbol(int)", "int copies()",
      "int copy(int,int)", "void load()", "void start()", "int memory(int)");

  public static void main(String[] args) {
    Set<String> seen = new TreeSet<>();
    for (Method method : LayoutDesk.class.getDeclaredMethods()) {
      if (!Modifier.isPrivate(method.getModifiers()) && !method.isSynthetic()) {
        String text = method.toGenericString().replaceAll(" throws .*", "")
            .replace("LayoutDesk.", "");
        seen.add(text.replaceFirst("^public ", ""));
      }
    }
    Check.same("methods that are seen: " + seen, seen.equals(DUE) ? 1 : 0, 1);
    for (Field field : LayoutDesk.class.getDeclaredFields()) {
      Check.same("field " + field.getName() + " is private",
          Modifier.isPrivate(field.getModifiers()) ? 1 : 0, 1);
    }
    Constructor<?>[] constructors = LayoutDesk.class.getDeclaredConstructors();
    Check.same("constructors", constructors.length, 1);
    Check.same("it is public", Modifier.isPublic(constructors[0].getModifiers()) ? 1 : 0, 1);
    Check.same("the class is final", Modifier.isFinal(LayoutDesk.class.getModifiers()) ? 1 : 0, 1);
    Check.end();
  }
}
