import java.util.Arrays;
import java.util.List;
import java.util.function.Consumer;
import java.util.function.Supplier;

/** What the tests share: typing a script, and comparing answers with what is due. */
final class Check {
  private static int wrong = 0;
  private static String sentence = "";

  private Check() {}

  /** The words of the document on which the checks behind it rest; a wrong answer is told with them. */
  static void sentence(String words) {
    sentence = words;
  }

  private static void tell(String what) {
    wrong++;
    System.out.println(what + (sentence.isEmpty() ? "" : " (\"" + sentence + "\")"));
  }

  static void same(String what, long got, long due) {
    if (got != due) {
      tell(what + " answered " + got + ", due is " + due);
    }
  }

  static void same(String what, Object got, Object due) {
    if (!got.equals(due)) {
      tell(what + " answered " + got + ", due is " + due);
    }
  }

  /** Tells only the first of the answers that are not as due. */
  static void same(String what, List<?> got, List<?> due) {
    for (int i = 0; i < Math.max(got.size(), due.size()); i++) {
      Object one = i < got.size() ? got.get(i) : "nothing";
      Object other = i < due.size() ? due.get(i) : "nothing";
      if (!one.equals(other)) {
        same(what + ", answer " + i, one, other);
        return;
      }
    }
  }

  static void raises(String what, Class<? extends RuntimeException> due, Runnable call) {
    String got = "nothing";
    try {
      call.run();
    } catch (RuntimeException e) {
      got = e.getClass().getName();
    }
    if (!got.equals(due.getName())) {
      tell(what + " threw " + got + ", due is " + due.getName());
    }
  }

  static void badArgument(String what, Runnable call) {
    raises(what, IllegalArgumentException.class, call);
  }

  static void badState(String what, Runnable call) {
    raises(what, IllegalStateException.class, call);
  }

  static void noElement(String what, Runnable call) {
    raises(what, java.util.NoSuchElementException.class, call);
  }

  /** A number whose lowest bytes are the characters of the text, the first one highest. */
  static long packed(String text) {
    long packed = 0;
    for (int i = 0; i < text.length(); i++) {
      packed = packed << 8 | text.charAt(i);
    }
    return packed;
  }

  static void type(LayoutDesk desk, String script) {
    for (int i = 0; i < script.length(); i += 8) {
      String part = script.substring(i, Math.min(script.length(), i + 8));
      desk.type(packed(part), part.length());
    }
  }

  static void retype(LayoutDesk desk, String script) {
    desk.clear();
    type(desk, script);
  }

  /** A desk whose inputs are: a 10 bytes by 4, b 7 by 1, c 5 by 8, d 40 by 16, e empty by 1. */
  static LayoutDesk desk() {
    LayoutDesk desk = new LayoutDesk();
    desk.input(0, 10, 4, 1);
    desk.input(1, 7, 1, 100);
    desk.input(2, 5, 8, 200);
    desk.input(3, 40, 16, 7);
    return desk;
  }

  static LayoutDesk typed(String script) {
    LayoutDesk desk = desk();
    type(desk, script);
    return desk;
  }

  static LayoutDesk laid(String script) {
    LayoutDesk desk = typed(script);
    same("lay of " + script, desk.lay(), 0);
    return desk;
  }

  /** Lays the script out and expects it to fail so, or 0 for not at all. */
  static void lays(String script, int due) {
    LayoutDesk desk = typed(script);
    same("lay of " + script, desk.lay(), due);
    same("bad of " + script, desk.bad(), -1);
    if (due != 0) {
      noLayout("after " + script, desk);
    }
  }

  static void malformed(String script, int place) {
    LayoutDesk desk = typed(script);
    same("lay of " + script, desk.lay(), 1);
    same("bad of " + script, desk.bad(), place);
    noLayout("after " + script, desk);
  }

  /**
   * Expects that the call is refused, and that a desk on which it was tried answers behind it as one
   * on which it was not: at once, when it is laid out again, when more is typed, and in all memory.
   */
  static void refused(String what, Class<? extends RuntimeException> due, Supplier<LayoutDesk> made,
      Consumer<LayoutDesk> call) {
    Supplier<LayoutDesk> tried = () -> {
      LayoutDesk desk = made.get();
      raises(what, due, () -> call.accept(desk));
      return desk;
    };
    same("the calls behind " + what, Answers.later(tried.get()), Answers.later(made.get()));
    same("memory behind " + what, Answers.memory(tried), Answers.memory(made));
  }

  /** Expects that every call that asks for a layout is refused for want of one. */
  static void noLayout(String what, LayoutDesk desk) {
    badState("section " + what, () -> desk.section(0, 0));
    badState("put " + what, () -> desk.put(0));
    badState("symbol " + what, () -> desk.symbol(8));
    badState("copies " + what, desk::copies);
    badState("copy " + what, () -> desk.copy(0, 0));
    badState("load " + what, desk::load);
    badState("start " + what, desk::start);
  }

  /**
   * Expects all memory to be so. Each half is read of a desk of its own, so that none is used for
   * more calls than the document promises.
   */
  static void memory(String what, Supplier<LayoutDesk> made, int[] due) {
    for (int half = 0; half < 512; half += 256) {
      LayoutDesk desk = made.get();
      for (int a = half; a < half + 256; a++) {
        same(what + " memory " + a, desk.memory(a), due[a]);
      }
    }
  }

  /** All memory of one value. */
  static int[] bytes(int rest) {
    int[] bytes = new int[512];
    Arrays.fill(bytes, rest);
    return bytes;
  }

  /** Puts the values into the bytes, from the place on. */
  static void set(int[] bytes, int place, int... values) {
    System.arraycopy(values, 0, bytes, place, values.length);
  }

  static void end() {
    System.out.println(wrong == 0 ? "all answers are as due" : wrong + " answers are not as due");
    if (wrong != 0) {
      System.exit(1);
    }
  }
}
