/** Promise 13. */
public final class StartTest {
  public static void main(String[] args) {
    copiesAndBlanks();
    chained();
    neighbours();
    endsOfMemory();
    nothingToDo();
    withoutLoad();
    refused();
    Check.end();
  }

  private static LayoutDesk started(String script) {
    LayoutDesk desk = Check.laid(script);
    desk.load();
    desk.start();
    return desk;
  }

  private static void copiesAndBlanks() {
    Check.sentence("Does the copies in order; then what is not loaded becomes 0 where it runs");
    String script = "MA=0,99;MB=200,99;SA{b}>A^B;SB{%4c}>A!;SC{a}>A;";
    // B runs from 8 up to 13, C from 16 up to 26; A stays as well where it is loaded.
    int[] due = Check.bytes(170);
    Check.set(due, 0, 100, 101, 102, 103, 104, 105, 106);
    Check.set(due, 200, 100, 101, 102, 103, 104, 105, 106);
    Check.set(due, 8, 0, 0, 0, 0, 0);
    Check.set(due, 16, 1, 2, 3, 4, 5, 6, 7, 8, 9, 10);
    Check.memory("started", () -> started(script), due);
    Check.memory("started again", () -> {
      LayoutDesk desk = started(script);
      desk.start();
      return desk;
    }, due);

    int[] blank = Check.bytes(170);
    Check.set(blank, 50, 0, 0, 0, 0, 0, 0, 0);
    Check.set(blank, 61, 0, 0, 0);
    Check.memory("blank", () -> started("MA=0,99;SA@50{b}>A!;SB@60{}>A!;SC@61{%4}>A!;"), blank);
  }

  /** The second copy goes where the first one has read; what is not loaded is blanked last. */
  private static void chained() {
    Check.sentence("Does the copies in order; then what is not loaded becomes 0");
    LayoutDesk desk = Check.laid("MA=0,99;MB=100,99;MC=200,99;MD=0,99;SA{b}>C^D;SB{a}>A^B;"
        + "SC@100{e%4}>B!;SD@102{%8}>B!;");
    desk.load();
    Check.same("A is loaded", desk.memory(0), 100);
    Check.same("B is loaded", desk.memory(100), 1);
    desk.start();
    Check.same("A runs", desk.memory(200), 100);
    Check.same("A's end", desk.memory(206), 106);
    Check.same("B runs over A's place", desk.memory(0), 1);
    Check.same("B's third byte was read before it was blanked", desk.memory(2), 3);
    Check.same("behind B", desk.memory(10), 170);
    Check.same("before D", desk.memory(101), 2);
    Check.same("D is blank", desk.memory(102), 0);
    Check.same("D's end", desk.memory(103), 0);
    Check.same("behind D", desk.memory(104), 5);
  }

  /** What lies right behind the bytes of a copy is not copied. */
  private static void neighbours() {
    Check.sentence("byte by byte from the first on");
    LayoutDesk desk = started("MA=0,99;MB=200,99;SA@20{b}>A^B;SB@207{%16}>B;");
    Check.same("before A", desk.memory(19), 170);
    Check.same("A", desk.memory(20), 100);
    Check.same("A's end", desk.memory(26), 106);
    Check.same("behind A, where it runs", desk.memory(27), 170);
    Check.same("behind A, where it is loaded", desk.memory(207), 0);
  }

  private static void endsOfMemory() {
    // b has 7 bytes: from one end of memory to the other, either way, and blanks at both ends.
    int[] up = Check.bytes(170);
    Check.set(up, 0, 100, 101, 102, 103, 104, 105, 106);
    Check.set(up, 505, 100, 101, 102, 103, 104, 105, 106);
    Check.memory("to the end", () -> started("MA=505,7;MB=0,7;SA{b}>A^B;"), up);
    Check.memory("from the end", () -> started("MA=0,7;MB=505,7;SA{b}>A^B;"), up);
    int[] blank = Check.bytes(170);
    Check.set(blank, 0, 0, 0, 0, 0, 0, 0, 0);
    Check.set(blank, 511, 0);
    Check.memory("blank at both ends", () -> started("MA=0,512;SA{b}>A!;SB@511{%64}>A!;"), blank);
  }

  private static void nothingToDo() {
    Check.memory("no script", () -> started(""), Check.bytes(170));
    Check.memory("empty sections", () -> started(
        "MA=0,512;MB=512,0;SA{}>A;SB@9{}>A^B;SC@512{}>A!;SD@0{e}>A!;SE{}>B!;"), Check.bytes(170));
    int[] here = Check.bytes(170);
    Check.set(here, 9, 100, 101, 102, 103, 104, 105, 106);
    Check.memory("where it is loaded", () -> started("MA=9,9;SA{b}>A;"), here);
    Check.memory("in another region there", () -> started("MA=9,9;MB=9,9;SA{b}>A^B;"), here);
  }

  private static void refused() {
    Check.sentence("IllegalStateException: there is no layout");
    int[] due = Check.bytes(170);
    Check.set(due, 200, 100, 101, 102, 103, 104, 105, 106);
    Check.memory("not started", () -> {
      LayoutDesk desk = Check.laid("MA=0,99;MB=200,99;SA{b}>A^B;SB{c}>A!;");
      desk.load();
      desk.clear();
      Check.badState("start without a layout", desk::start);
      Check.type(desk, "MA=0,9;SA{c}>A!;SB{d}>A;");
      Check.badState("start before lay", desk::start);
      Check.same("overflow", desk.lay(), 3);
      Check.badState("start of a layout that failed", desk::start);
      return desk;
    }, due);
  }

  private static void withoutLoad() {
    Check.sentence("Does the copies in order");
    Check.memory("without load", () -> {
      LayoutDesk desk = Check.laid("MA=0,99;MB=200,99;SA{b}>A^B;SB{c}>A!;");
      desk.start();
      return desk;
    }, Check.bytes(0));

    LayoutDesk desk = Check.laid("MA=0,99;MB=200,99;SA{b}>A^B;SB{c}>A!;");
    desk.load();
    Check.retype(desk, "MA=300,99;MB=201,99;SA{b}>A^B;SB{c}>A!;");
    Check.same("lay", desk.lay(), 0);
    desk.start();
    Check.same("what lay there is copied", desk.memory(300), 101);
    Check.same("its end", desk.memory(306), 170);
    Check.same("between", desk.memory(307), 170);
    Check.same("blank", desk.memory(312), 0);
    Check.same("the rest stays", desk.memory(200), 100);
  }
}
