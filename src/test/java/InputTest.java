/** Promise 2. */
public final class InputTest {
  public static void main(String[] args) {
    edgesAreTaken();
    wrongOnesChangeNothing();
    layoutIsGone();
    Check.end();
  }

  private static void edgesAreTaken() {
    LayoutDesk desk = new LayoutDesk();
    desk.input(7, 40, 16, 255);
    desk.input(0, 0, 2, 0);
    desk.input(1, 1, 8, 128);
    Check.type(desk, "MA=1,99;SA{ahb}>A;");
    Check.same("lay", desk.lay(), 0);
    Check.same("a", desk.put(0), 16);
    Check.same("h", desk.put(7), 16);
    Check.same("b", desk.put(1), 56);
    Check.same("size", desk.section(0, 1), 41);
    desk.load();
    Check.same("seed", desk.memory(16), 255);
    Check.same("seed and 1", desk.memory(17), 0);
    Check.same("seed and 39", desk.memory(55), 38);
    Check.same("b's seed", desk.memory(56), 128);
  }

  private static void wrongOnesChangeNothing() {
    LayoutDesk desk = Check.laid("MA=0,64;SA{a}>A;");
    Check.badArgument("input -1", () -> desk.input(-1, 1, 1, 0));
    Check.badArgument("input 8", () -> desk.input(8, 1, 1, 0));
    Check.badArgument("size -1", () -> desk.input(0, -1, 1, 0));
    Check.badArgument("size 41", () -> desk.input(0, 41, 1, 0));
    int[] aligns = {Integer.MIN_VALUE, -8, -1, 0, 3, 5, 6, 7, 12, 15, 17, 32, 64, 1 << 30};
    for (int align : aligns) {
      Check.badArgument("align " + align, () -> desk.input(0, 1, align, 0));
    }
    Check.badArgument("seed -1", () -> desk.input(0, 1, 1, -1));
    Check.badArgument("seed 256", () -> desk.input(0, 1, 1, 256));
    Check.same("the layout stays", desk.section(0, 1), 10);
    Check.same("lay again", desk.lay(), 0);
    Check.same("the input stays", desk.section(0, 1), 10);
  }

  private static void layoutIsGone() {
    LayoutDesk desk = Check.laid("MA=0,64;SA{a}>A;");
    desk.input(5, 0, 1, 0);
    Check.badState("section after input", () -> desk.section(0, 0));
    Check.badState("load after input", desk::load);
    Check.same("lay again", desk.lay(), 0);
    for (int align = 1; align <= 16; align *= 2) {
      desk.input(0, 9, align, 0);
      desk.input(1, 9, align, 0);
      Check.retype(desk, "MA=1,64;SA{ab}>A;");
      Check.same("lay with " + align, desk.lay(), 0);
      Check.same("begin by " + align, desk.section(0, 0), align);
      Check.same("b by " + align, desk.put(1), align == 16 ? 32 : align == 8 ? 24
          : align == 4 ? 16 : align == 2 ? 12 : 10);
    }
  }
}
