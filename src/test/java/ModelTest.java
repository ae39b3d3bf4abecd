/** Promises 2 to 14 on many scripts that are made up, against a model of the document. */
public final class ModelTest {
  private static final int SCRIPTS = 60000;
  /** A number that is told here, so that every run of the test is the same. */
  private static long state = 20261115;
  private static final int[] outcomes = new int[6];

  public static void main(String[] args) {
    for (int i = 0; i < SCRIPTS; i += 2) {
      comparePair(script(), script());
    }
    everyCharacterBehindEveryPrefix();
    for (int kind = 0; kind < outcomes.length; kind++) {
      System.out.println(outcomes[kind] + " scripts answered " + kind);
      Check.same("enough scripts for " + kind, outcomes[kind] > SCRIPTS / 300 ? 1 : 0, 1);
    }
    Check.end();
  }

  private static int below(int n) {
    state = state * 6364136223846793005L + 1442695040888963407L;
    return (int) ((state >>> 33) % n);
  }

  private static boolean once(int n) {
    return below(n) == 0;
  }

  private static char from(String letters) {
    return letters.charAt(below(letters.length()));
  }

  private static String script() {
    StringBuilder text = new StringBuilder();
    int regions = 1 + below(4);
    for (int r = 0; r < regions; r++) {
      int origin = once(2) ? below(60) : 128 * r;
      text.append('M').append((char) ('A' + r)).append('=').append(origin).append(',')
          .append(once(12) ? below(60) : once(9) ? below(600) : 120 + below(190)).append(';');
    }
    String inputs = "abcdefgh";
    String marks = "";
    int sections = below(6);
    for (int s = 0; s < sections; s++) {
      text.append('S').append((char) ('A' + (once(30) ? below(8) : s)));
      if (once(4)) {
        text.append('@').append(below(3) > 0 ? "" + below(90) : expression(2, sections));
      }
      text.append('{');
      for (int n = below(4); n > 0; n--) {
        int kind = below(5);
        if (kind == 0) {
          text.append('%').append(1 << below(once(3) ? 7 : 4));
        } else if (kind == 1 && marks.length() < 4) {
          char v = (char) ('i' + marks.length());
          marks += v;
          text.append('$').append(v);
        } else if (!inputs.isEmpty()) {
          char k = from(inputs);
          text.append(k);
          inputs = once(40) ? inputs : inputs.replace("" + k, "");
        }
      }
      char home = (char) ('A' + below(regions));
      text.append("}>").append(home);
      int load = below(4);
      char loadHome = (char) ('A' + below(regions));
      text.append(load == 0 ? "!" : load < 3 && loadHome != home ? "^" + loadHome : "").append(';');
    }
    for (int n = below(3), v = marks.length(); n > 0; n--, v++) {
      text.append('Y').append((char) ('i' + v)).append('=').append(expression(3, sections))
          .append(';');
    }
    return once(6) ? spoilt(text) : text.toString();
  }

  private static String expression(int depth, int sections) {
    StringBuilder text = new StringBuilder(term(depth, sections));
    for (int n = below(3); n > 0; n--) {
      text.append(from("++-")).append(term(depth, sections));
    }
    return text.toString();
  }

  private static String term(int depth, int sections) {
    int kind = below(depth > 0 ? 8 : 6);
    if (kind == 7) {
      return "(" + expression(depth - 1, sections) + ")";
    }
    if (kind == 6) {
      return "[" + expression(depth - 1, sections) + "," + (1 << below(7)) + "]";
    }
    if (kind > 3 && sections > 0) {
      return "" + from("/|#") + (char) ('A' + (once(20) ? below(8) : below(sections)));
    }
    return kind == 0 ? "" + from("ijkl") : "" + below(once(5) ? 9999 : 100);
  }

  private static String spoilt(StringBuilder text) {
    String all = "MSYABCDEHIabhijz0123456789=,;@{}>^!%$+-/|#()[]";
    int i = below(text.length());
    int how = below(4);
    if (how == 0) {
      text.setLength(i);
    } else if (how == 1) {
      text.setCharAt(i, from(all));
    } else if (how == 2) {
      text.insert(i, from(all));
    } else {
      text.deleteCharAt(i);
    }
    return text.toString();
  }

  private static void everyCharacterBehindEveryPrefix() {
    String script = "MA=0,128;MB=256,64;SA@[5+(2-1),4]{a%8b$i}>A;SB{c}>B^A;SC{}>B!;Yj=i-/A+|B+#B;";
    for (int n = 0; n <= script.length(); n++) {
      for (char c = 33; c < 127; c += 2) {
        String prefix = script.substring(0, n);
        comparePair(prefix + c, prefix + (char) (c + 1));
      }
    }
  }

  /**
   * Lays two scripts out on one desk, so that what the first leaves behind is seen; of the memory
   * one half is read, at one time, which keeps the desk under its 512 calls.
   */
  private static void comparePair(String first, String second) {
    LayoutDesk desk = new LayoutDesk();
    Model model = new Model();
    compare(first, desk, model);
    if (!compare(second, desk, model)) {
      return;
    }
    desk.load();
    model.load();
    if (once(2)) {
      desk.start();
      model.start();
    }
    int half = 256 * below(2);
    for (int a = half; a < half + 256; a++) {
      Check.same("memory " + a + " of " + second, desk.memory(a), model.memory[a]);
    }
  }

  private static boolean compare(String made, LayoutDesk desk, Model model) {
    String script = made.length() > 160 ? made.substring(0, 160) : made;
    for (int k = 0; k < 8; k++) {
      model.size[k] = once(4) ? 0 : below(once(3) ? 41 : 14);
      model.align[k] = 1 << below(5);
      model.seed[k] = below(256);
      desk.input(k, model.size[k], model.align[k], model.seed[k]);
    }
    Check.retype(desk, script);
    Model.Failure failure = model.lay(script);
    int due = failure == null ? 0 : failure.kind;
    outcomes[due]++;
    Check.same("lay of " + script, desk.lay(), due);
    Check.same("bad of " + script, desk.bad(), failure == null ? -1 : failure.place);
    if (failure == null) {
      compareLayouts(script, desk, model);
    }
    return failure == null;
  }

  private static void compareLayouts(String script, LayoutDesk desk, Model model) {
    for (Model.Part part : model.order) {
      String name = "section " + part.letter + " of " + script;
      Check.same(name, desk.section(part.letter - 'A', 0), part.begin);
      Check.same(name, desk.section(part.letter - 'A', 1), part.size);
      Check.same(name, desk.section(part.letter - 'A', 2), part.load);
    }
    for (int k = 0; k < 8; k++) {
      Integer due = model.put.get((char) ('a' + k));
      Check.same("put " + k + " of " + script, desk.put(k), due == null ? -1 : due);
    }
    for (char v : model.values.keySet()) {
      Check.same("symbol " + v + " of " + script, desk.symbol(v - 'a'), model.symbol(v));
    }
    Check.same("copies of " + script, desk.copies(), model.copies.size());
    for (int k = 0; k < model.copies.size(); k++) {
      Check.same("from of " + script, desk.copy(k, 0), model.copies.get(k).load);
      Check.same("to of " + script, desk.copy(k, 1), model.copies.get(k).begin);
      Check.same("bytes of " + script, desk.copy(k, 2), model.copies.get(k).size);
    }
  }
}
