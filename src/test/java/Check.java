import java.util.Arrays;
import java.util.function.Supplier;

/** What the tests share: typing a script, and comparing answers with what is due. */
final class Check {
  private static int wrong = 0;

  private Check() {}

  static void same(String what, long got, long due) {
    if (got != due) {
      wrong++;
      System.out.println(what + " answered " + got + ", due is " + due);
    }
  }

  static void raises(String what, Class<? extends RuntimeException> due, Runnable call) {
    String got = "nothing";
    try {
      call.run();
    } catch (RuntimeException e) {
      got = e.getClass().getName();
    }
    if (!got.equals(due.getName())) {
      wrong++;
      System.out.println(what + " threw " + got + ", due is " + due.getName());
    }
  }

  static void badArgument(String what, Runnable call) {
    raises(what, IllegalArgumentException.class, call);
  }

  static void badState(String what, Runnable call) {
    raises(what, IllegalStateException.class, call);
  }

  static void noElement(String what, Runnable call) {
    raises(what, java.util.NoSuchElementException.class, call);
  }

  /** A number whose lowest bytes are the characters of the text, the first one highest. */
  static long packed(String text) {
    long packed = 0;
    for (int i = 0; i < text.length(); i++) {
      packed = packed << 8 | text.charAt(i);
    }
    return packed;
  }

  static void type(LayoutDesk desk, String script) {
    for (int i = 0; i < script.length(); i += 8) {
      String part = script.substring(i, Math.min(script.length(), i + 8));
      desk.type(packed(part), part.length());
    }
  }

  static void retype(LayoutDesk desk, String script) {
    desk.clear();
    type(desk, script);
  }

  /** A desk whose inputs are: a 10 bytes by 4, b 7 by 1, c 5 by 8, d 40 by 16, e empty by 1. */
  static LayoutDesk desk() {
    LayoutDesk desk = new LayoutDesk();
    desk.input(0, 10, 4, 1);
    desk.input(1, 7, 1, 100);
    desk.input(2, 5, 8, 200);
    desk.input(3, 40, 16, 7);
    return desk;
  }

  static LayoutDesk typed(String script) {
    LayoutDesk desk = desk();
    type(desk, script);
    return desk;
  }

  static LayoutDesk laid(String script) {
    LayoutDesk desk = typed(script);
    same("lay of " + script, desk.lay(), 0);
    return desk;
  }

  /** Lays the script out and expects it to fail so, or 0 for not at all. */
  static void lays(String script, int due) {
    LayoutDesk desk = typed(script);
    same("lay of " + script, desk.lay(), due);
    same("bad of " + script, desk.bad(), -1);
    if (due != 0) {
      badState("copies after " + script, desk::copies);
    }
  }

  static void malformed(String script, int place) {
    LayoutDesk desk = typed(script);
    same("lay of " + script, desk.lay(), 1);
    same("bad of " + script, desk.bad(), place);
    badState("copies after " + script, desk::copies);
  }

  /**
   * Expects all memory to be so. Each half is read of a desk of its own, so that none is used for
   * more calls than the document promises.
   */
  static void memory(String what, Supplier<LayoutDesk> made, int[] due) {
    for (int half = 0; half < 512; half += 256) {
      LayoutDesk desk = made.get();
      for (int a = half; a < half + 256; a++) {
        same(what + " memory " + a, desk.memory(a), due[a]);
      }
    }
  }

  /** All memory of one value. */
  static int[] bytes(int rest) {
    int[] bytes = new int[512];
    Arrays.fill(bytes, rest);
    return bytes;
  }

  /** Puts the values into the bytes, from the place on. */
  static void set(int[] bytes, int place, int... values) {
    System.arraycopy(values, 0, bytes, place, values.length);
  }

  static void end() {
    System.out.println(wrong == 0 ? "all answers are as due" : wrong + " answers are not as due");
    if (wrong != 0) {
      System.exit(1);
    }
  }
}
