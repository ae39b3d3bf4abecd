import java.util.LinkedHashMap;
import java.util.Map;
import java.util.NoSuchElementException;
import java.util.function.Consumer;
import java.util.function.Supplier;

/**
 * Promises 2, 3, 7 to 14: each refused call, tried on a desk in each state, throws what the document
 * says, and the calls behind it answer as if it had not been tried.
 */
public final class RefusedTest {
  private static final int[] FAR = {Integer.MIN_VALUE, -1000000, 1000000, Integer.MAX_VALUE};
  /** A runs from 20 on and is loaded from 200 on; B is not loaded, C has no copy. */
  private static final String SCRIPT = "MA=16,99;MB=200,99;SA@20{b$i}>A^B;SB{c}>A!;SC{a}>A;Yk=#B;";

  private static final Map<String, Supplier<LayoutDesk>> WITH_LAYOUT = new LinkedHashMap<>();
  private static final Map<String, Supplier<LayoutDesk>> WITHOUT_LAYOUT = new LinkedHashMap<>();

  public static void main(String[] args) {
    makeStates();
    for (Map.Entry<String, Supplier<LayoutDesk>> state : WITH_LAYOUT.entrySet()) {
      wrongArguments(state.getKey(), state.getValue());
      noSuchElement(state.getKey(), state.getValue());
    }
    for (Map.Entry<String, Supplier<LayoutDesk>> state : WITHOUT_LAYOUT.entrySet()) {
      wrongArguments(state.getKey(), state.getValue());
      noLayout(state.getKey(), state.getValue());
    }
    tooManyCharacters();
    Check.end();
  }

  private static void makeStates() {
    WITHOUT_LAYOUT.put("new", LayoutDesk::new);
    WITHOUT_LAYOUT.put("typed", () -> Check.typed(SCRIPT));
    failed("malformed", "Yi=1;X", 1);
    failed("unknown", "MA=16,99;SA{a}>A;Yi=j;", 2);
    failed("overflowing", "MA=16,9;SA{a$i}>A;", 3);
    failed("overlapping", "MA=16,99;SA@16{a$i}>A;SB@20{b}>A;", 4);
    failed("clashing", "MA=16,99;MB=20,99;SA{a$i}>A^B;", 5);
    changed("cleared", LayoutDesk::clear);
    changed("with more typed", desk -> desk.type('Y', 1));
    changed("with an input told", desk -> desk.input(0, 10, 4, 1));
    WITH_LAYOUT.put("empty", () -> Check.laid(""));
    WITH_LAYOUT.put("laid", () -> Check.laid(SCRIPT));
    WITH_LAYOUT.put("loaded", RefusedTest::loaded);
    WITH_LAYOUT.put("started", () -> {
      LayoutDesk desk = loaded();
      desk.start();
      return desk;
    });
  }

  private static LayoutDesk loaded() {
    LayoutDesk desk = Check.laid(SCRIPT);
    desk.load();
    return desk;
  }

  private static void failed(String name, String script, int due) {
    WITHOUT_LAYOUT.put(name, () -> {
      LayoutDesk desk = loaded();
      Check.retype(desk, script);
      Check.same("lay of " + script, desk.lay(), due);
      return desk;
    });
  }

  private static void changed(String name, Consumer<LayoutDesk> change) {
    WITHOUT_LAYOUT.put(name, () -> {
      LayoutDesk desk = loaded();
      change.accept(desk);
      return desk;
    });
  }

  private static void wrongArguments(String state, Supplier<LayoutDesk> made) {
    Class<IllegalArgumentException> due = IllegalArgumentException.class;
    Check.sentence("IllegalArgumentException: there is none, or a number is not as said");
    for (int k : with(FAR, -1, 8, 9)) {
      Check.refused("input " + k + ", " + state, due, made, desk -> desk.input(k, 1, 1, 0));
      Check.refused("put " + k + ", " + state, due, made, desk -> desk.put(k));
    }
    for (int size : with(FAR, -1, 41)) {
      Check.refused("size " + size + ", " + state, due, made, desk -> desk.input(0, size, 1, 0));
    }
    for (int align : with(FAR, -16, -1, 0, 3, 5, 7, 9, 12, 15, 17, 20, 24, 32, 64, 1 << 30)) {
      Check.refused("align " + align + ", " + state, due, made, desk -> desk.input(0, 1, align, 0));
    }
    for (int seed : with(FAR, -1, 256)) {
      Check.refused("seed " + seed + ", " + state, due, made, desk -> desk.input(0, 1, 1, seed));
    }
    Check.sentence("n characters (1 .. 8, each 33 .. 126). IllegalArgumentException: not so");
    for (int n : with(FAR, -1, 0, 9)) {
      Check.refused("n " + n + ", " + state, due, made, desk -> desk.type(0x4141414141414141L, n));
    }
    for (int c : new int[] {0, 9, 10, 31, 32, 127, 128, 160, 255}) {
      long high = (long) c << 56 | 0x41414141414141L;
      Check.refused("character " + c + ", " + state, due, made, desk -> desk.type(c, 1));
      Check.refused("highest " + c + ", " + state, due, made, desk -> desk.type(high, 8));
    }
    Check.sentence("IllegalArgumentException: no such what");
    for (int what : with(FAR, -1, 3)) {
      Check.refused("section what " + what + ", " + state, due, made, desk -> desk.section(0, what));
      Check.refused("copy what " + what + ", " + state, due, made, desk -> desk.copy(0, what));
      Check.refused("section 9 what " + what + ", " + state, due, made, d -> d.section(9, what));
      Check.refused("copy 9 what " + what + ", " + state, due, made, desk -> desk.copy(9, what));
    }
    Check.sentence("IllegalArgumentException: it is not 8 .. 25");
    for (int v : with(FAR, -1, 0, 7, 26)) {
      Check.refused("symbol " + v + ", " + state, due, made, desk -> desk.symbol(v));
    }
    Check.sentence("IndexOutOfBoundsException: it is not 0 .. 511");
    for (int a : with(FAR, -1, 512)) {
      Check.refused("memory " + a + ", " + state, IndexOutOfBoundsException.class, made,
          desk -> desk.memory(a));
    }
  }

  private static void noLayout(String state, Supplier<LayoutDesk> made) {
    Check.sentence("IllegalStateException: there is no layout");
    Class<IllegalStateException> due = IllegalStateException.class;
    for (int what = 0; what < 3; what++) {
      int w = what;
      for (int n : with(FAR, -1, 0, 7, 8)) {
        Check.refused("section " + n + ", " + state, due, made, desk -> desk.section(n, w));
        Check.refused("copy " + n + ", " + state, due, made, desk -> desk.copy(n, w));
      }
    }
    Check.refused("put 0, " + state, due, made, desk -> desk.put(0));
    Check.refused("put 7, " + state, due, made, desk -> desk.put(7));
    Check.refused("symbol 8, " + state, due, made, desk -> desk.symbol(8));
    Check.refused("symbol 25, " + state, due, made, desk -> desk.symbol(25));
    Check.refused("copies, " + state, due, made, LayoutDesk::copies);
    Check.refused("load, " + state, due, made, LayoutDesk::load);
    Check.refused("start, " + state, due, made, LayoutDesk::start);
  }

  private static void noSuchElement(String state, Supplier<LayoutDesk> made) {
    Class<NoSuchElementException> due = NoSuchElementException.class;
    for (int what = 0; what < 3; what++) {
      int w = what;
      Check.sentence("NoSuchElementException: there is no such section");
      for (int t : with(FAR, -1, 3, 7, 8)) {
        Check.refused("section " + t + ", " + state, due, made, desk -> desk.section(t, w));
      }
      Check.sentence("Of copy k. As for section.");
      for (int k : with(FAR, -1, 1, 2, 7, 8)) {
        Check.refused("copy " + k + ", " + state, due, made, desk -> desk.copy(k, w));
      }
    }
    Check.sentence("NoSuchElementException: it was not told");
    for (int v : new int[] {9, 11, 24, 25}) {
      Check.refused("symbol " + v + ", " + state, due, made, desk -> desk.symbol(v));
    }
  }

  private static void tooManyCharacters() {
    Check.sentence("IllegalStateException: there would be more than 160");
    for (int length = 153; length <= 160; length++) {
      String script = "Yi=" + "1+".repeat((length - 5) / 2) + (length % 2 == 0 ? "10" : "1") + ";";
      Check.same("characters", script.length(), length);
      for (int n = 161 - length; n <= 8; n++) {
        int many = n;
        String name = n + " behind " + length;
        Check.refused(name + ", typed", IllegalStateException.class, () -> Check.typed(script),
            desk -> desk.type(0x4141414141414141L, many));
        Check.refused(name + ", laid", IllegalStateException.class, () -> Check.laid(script),
            desk -> desk.type(0x4141414141414141L, many));
        Check.refused(name + " with a blank", IllegalArgumentException.class,
            () -> Check.laid(script), desk -> desk.type(0x4141414141414120L, many));
      }
    }
  }

  private static int[] with(int[] far, int... near) {
    int[] all = new int[far.length + near.length];
    System.arraycopy(near, 0, all, 0, near.length);
    System.arraycopy(far, 0, all, near.length, far.length);
    return all;
  }
}
