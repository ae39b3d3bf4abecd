/** Promise 13. */
public final class StartTest {
  public static void main(String[] args) {
    copiesAndBlanks();
    chained();
    withoutLoad();
    Check.end();
  }

  private static void copiesAndBlanks() {
    LayoutDesk desk = Check.laid("MA=0,99;MB=200,99;SA{b}>A^B;SB{%4c}>A!;SC{a}>A;");
    desk.load();
    desk.start();
    for (int i = 0; i < 512; i++) {
      // B runs from 8 up to 13, C from 16 up to 26; A stays as well where it is loaded.
      int due = i < 7 ? 100 + i : i >= 8 && i < 13 ? 0 : i >= 16 && i < 26 ? i - 15
          : i >= 200 && i < 207 ? i - 100 : 170;
      Check.same("started memory " + i, desk.memory(i), due);
    }
    desk.start();
    Check.same("started again", desk.memory(6), 106);
    desk.clear();
    Check.badState("no layout", desk::start);
  }

  /** The second copy goes where the first one has read; what is not loaded is blanked last. */
  private static void chained() {
    LayoutDesk desk = Check.laid("MA=0,99;MB=100,99;MC=200,99;MD=0,99;SA{b}>C^D;SB{a}>A^B;"
        + "SC@100{e%4}>B!;SD@102{%8}>B!;");
    desk.load();
    Check.same("A is loaded", desk.memory(0), 100);
    Check.same("B is loaded", desk.memory(100), 1);
    desk.start();
    Check.same("A runs", desk.memory(200), 100);
    Check.same("A's end", desk.memory(206), 106);
    Check.same("B runs over A's place", desk.memory(0), 1);
    Check.same("B's third byte was read before it was blanked", desk.memory(2), 3);
    Check.same("behind B", desk.memory(10), 170);
    Check.same("before D", desk.memory(101), 2);
    Check.same("D is blank", desk.memory(102), 0);
    Check.same("D's end", desk.memory(103), 0);
    Check.same("behind D", desk.memory(104), 5);
  }

  private static void withoutLoad() {
    LayoutDesk desk = Check.laid("MA=0,99;MB=200,99;SA{b}>A^B;SB{c}>A!;");
    desk.start();
    for (int i = 0; i < 512; i++) {
      Check.same("memory " + i + " without load", desk.memory(i), 0);
    }
    desk.load();
    Check.retype(desk, "MA=300,99;MB=201,99;SA{b}>A^B;SB{c}>A!;");
    Check.same("lay", desk.lay(), 0);
    desk.start();
    Check.same("what lay there is copied", desk.memory(300), 101);
    Check.same("its end", desk.memory(306), 170);
    Check.same("between", desk.memory(307), 170);
    Check.same("blank", desk.memory(312), 0);
    Check.same("the rest stays", desk.memory(200), 100);
  }
}
