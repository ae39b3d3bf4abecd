import java.util.ArrayList;
import java.util.List;
import java.util.function.IntSupplier;
import java.util.function.Supplier;

/** All that can be asked of a desk, so that two desks can be compared. */
final class Answers {
  private Answers() {}

  private static String of(IntSupplier call) {
    try {
      return "" + call.getAsInt();
    } catch (RuntimeException e) {
      return e.getClass().getSimpleName();
    }
  }

  /** What a desk answers without being changed. */
  static List<String> now(LayoutDesk desk) {
    List<String> answers = new ArrayList<>();
    answers.add("bad " + of(desk::bad));
    answers.add("copies " + of(desk::copies));
    for (int n = 0; n < 24; n++) {
      int number = n / 3;
      int what = n % 3;
      answers.add("section " + number + " " + what + " " + of(() -> desk.section(number, what)));
      answers.add("copy " + number + " " + what + " " + of(() -> desk.copy(number, what)));
    }
    for (int n = 0; n < 8; n++) {
      int k = n;
      answers.add("put " + k + " " + of(() -> desk.put(k)));
    }
    for (int n = 8; n < 26; n++) {
      int v = n;
      answers.add("symbol " + v + " " + of(() -> desk.symbol(v)));
    }
    return answers;
  }

  /** What a desk answers now, when it is laid out again, and when a statement more is typed. */
  static List<String> later(LayoutDesk desk) {
    List<String> answers = now(desk);
    answers.add("lay " + of(desk::lay));
    answers.addAll(now(desk));
    answers.add("type " + of(() -> desk.type(Check.packed("Yz=9;"), 5)));
    answers.add("lay of more " + of(desk::lay));
    answers.addAll(now(desk));
    return answers;
  }

  /** Each half is read of a desk of its own: one may be used for 512 calls alone. */
  static List<Integer> memory(Supplier<LayoutDesk> made) {
    List<Integer> bytes = new ArrayList<>();
    for (int half = 0; half < 512; half += 256) {
      LayoutDesk desk = made.get();
      for (int a = half; a < half + 256; a++) {
        bytes.add(desk.memory(a));
      }
    }
    return bytes;
  }
}
