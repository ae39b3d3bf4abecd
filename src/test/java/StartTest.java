/** Promise 13. */
public final class StartTest {
  public static void main(String[] args) {
    copiesAndBlanks();
    chained();
    neighbours();
    withoutLoad();
    LayoutDesk desk = Check.laid("MA=0,99;SA{a}>A!;");
    desk.clear();
    Check.badState("no layout", desk::start);
    Check.end();
  }

  private static LayoutDesk started(String script) {
    LayoutDesk desk = Check.laid(script);
    desk.load();
    desk.start();
    return desk;
  }

  private static void copiesAndBlanks() {
    String script = "MA=0,99;MB=200,99;SA{b}>A^B;SB{%4c}>A!;SC{a}>A;";
    // B runs from 8 up to 13, C from 16 up to 26; A stays as well where it is loaded.
    int[] due = Check.bytes(170);
    Check.set(due, 0, 100, 101, 102, 103, 104, 105, 106);
    Check.set(due, 200, 100, 101, 102, 103, 104, 105, 106);
    Check.set(due, 8, 0, 0, 0, 0, 0);
    Check.set(due, 16, 1, 2, 3, 4, 5, 6, 7, 8, 9, 10);
    Check.memory("started", () -> started(script), due);
    Check.memory("started again", () -> {
      LayoutDesk desk = started(script);
      desk.start();
      return desk;
    }, due);

    int[] blank = Check.bytes(170);
    Check.set(blank, 50, 0, 0, 0, 0, 0, 0, 0);
    Check.set(blank, 61, 0, 0, 0);
    Check.memory("blank", () -> started("MA=0,99;SA@50{b}>A!;SB@60{}>A!;SC@61{%4}>A!;"), blank);
  }

  /** The second copy goes where the first one has read; what is not loaded is blanked last. */
  private static void chained() {
    LayoutDesk desk = Check.laid("MA=0,99;MB=100,99;MC=200,99;MD=0,99;SA{b}>C^D;SB{a}>A^B;"
        + "SC@100{e%4}>B!;SD@102{%8}>B!;");
    desk.load();
    Check.same("A is loaded", desk.memory(0), 100);
    Check.same("B is loaded", desk.memory(100), 1);
    desk.start();
    Check.same("A runs", desk.memory(200), 100);
    Check.same("A's end", desk.memory(206), 106);
    Check.same("B runs over A's place", desk.memory(0), 1);
    Check.same("B's third byte was read before it was blanked", desk.memory(2), 3);
    Check.same("behind B", desk.memory(10), 170);
    Check.same("before D", desk.memory(101), 2);
    Check.same("D is blank", desk.memory(102), 0);
    Check.same("D's end", desk.memory(103), 0);
    Check.same("behind D", desk.memory(104), 5);
  }

  /** What lies right behind the bytes of a copy is not copied. */
  private static void neighbours() {
    LayoutDesk desk = started("MA=0,99;MB=200,99;SA@20{b}>A^B;SB@207{%16}>B;");
    Check.same("before A", desk.memory(19), 170);
    Check.same("A", desk.memory(20), 100);
    Check.same("A's end", desk.memory(26), 106);
    Check.same("behind A, where it runs", desk.memory(27), 170);
    Check.same("behind A, where it is loaded", desk.memory(207), 0);
  }

  private static void withoutLoad() {
    Check.memory("without load", () -> {
      LayoutDesk desk = Check.laid("MA=0,99;MB=200,99;SA{b}>A^B;SB{c}>A!;");
      desk.start();
      return desk;
    }, Check.bytes(0));

    LayoutDesk desk = Check.laid("MA=0,99;MB=200,99;SA{b}>A^B;SB{c}>A!;");
    desk.load();
    Check.retype(desk, "MA=300,99;MB=201,99;SA{b}>A^B;SB{c}>A!;");
    Check.same("lay", desk.lay(), 0);
    desk.start();
    Check.same("what lay there is copied", desk.memory(300), 101);
    Check.same("its end", desk.memory(306), 170);
    Check.same("between", desk.memory(307), 170);
    Check.same("blank", desk.memory(312), 0);
    Check.same("the rest stays", desk.memory(200), 100);
  }
}
