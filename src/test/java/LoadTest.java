/** Promise 12. */
public final class LoadTest {
  private static final String SCRIPT = "MA=0,99;MB=201,99;SA@5{ab%8}>A^B;SB{c}>A;SC{d}>A!;";

  public static void main(String[] args) {
    bytesOfTheInputs();
    allMemory();
    emptySections();
    endsOfMemory();
    notLoaded();
    between();
    again();
    refused();
    Check.end();
  }

  private static LayoutDesk laid(String script) {
    LayoutDesk desk = new LayoutDesk();
    desk.input(0, 3, 4, 254);
    desk.input(1, 2, 1, 9);
    desk.input(2, 4, 2, 50);
    desk.input(3, 2, 1, 77);
    Check.type(desk, script);
    Check.same("lay", desk.lay(), 0);
    return desk;
  }

  private static LayoutDesk loaded(String script) {
    LayoutDesk desk = laid(script);
    desk.load();
    return desk;
  }

  /** A from 5 on: a at 8, b at 11, then up to 16; it is loaded at 208. C is not loaded. */
  private static int[] due() {
    int[] due = Check.bytes(170);
    Check.set(due, 208, 0, 0, 0, 254, 255, 0, 9, 10, 0, 0, 0);
    Check.set(due, 16, 50, 51, 52, 53);
    return due;
  }

  private static void bytesOfTheInputs() {
    Check.sentence("then the bytes of the inputs come where the sections are loaded");
    Check.memory("laid alone", () -> laid(SCRIPT), Check.bytes(0));
    Check.memory("loaded", () -> loaded(SCRIPT), due());
  }

  private static void allMemory() {
    Check.sentence("All memory becomes 170");
    Check.memory("of no script", () -> loaded(""), Check.bytes(170));
    Check.memory("of no section", () -> loaded("MA=0,512;Yi=1;"), Check.bytes(170));
    Check.memory("of what was loaded before", () -> {
      LayoutDesk desk = loaded(SCRIPT);
      Check.retype(desk, "MA=0,512;");
      Check.same("lay", desk.lay(), 0);
      desk.load();
      return desk;
    }, Check.bytes(170));
  }

  private static void emptySections() {
    String script = "MA=0,512;MB=512,0;SA{}>A;SB@512{e}>A;SC{}>B;SD@40{}>A^B;SE{$i}>B!;";
    Check.memory("of empty sections", () -> loaded(script), Check.bytes(170));
    Check.memory("of empty sections, started", () -> {
      LayoutDesk desk = loaded(script);
      desk.start();
      return desk;
    }, Check.bytes(170));
  }

  private static void endsOfMemory() {
    int[] due = Check.bytes(170);
    Check.set(due, 0, 9, 10);
    Check.set(due, 507, 0, 50, 51, 52, 53);
    Check.memory("at both ends", () -> loaded("MA=0,512;SA{b}>A;SB@507{c}>A;"), due);
    // Both are loaded at an end of memory and run elsewhere.
    int[] loads = Check.bytes(170);
    Check.set(loads, 0, 9, 10);
    Check.set(loads, 508, 50, 51, 52, 53);
    Check.memory("loaded at both ends",
        () -> loaded("MA=0,2;MB=507,5;MC=100,99;SA{b}>C^A;SB{c}>C^B;"), loads);
  }

  private static void notLoaded() {
    Check.sentence("(not those that are not loaded)");
    Check.memory("not loaded", () -> loaded("MA=0,99;SA{ab}>A!;SB@50{%64c}>A!;"), Check.bytes(170));
    int[] due = Check.bytes(170);
    Check.set(due, 300, 9, 10);
    Check.memory("not where it runs", () -> loaded("MA=0,99;MB=300,99;SA{a}>A!;SB{b}>A^B;"), due);
  }

  private static void between() {
    Check.sentence("and 0 for those between them");
    int[] due = Check.bytes(170);
    Check.set(due, 32, 9, 10, 0, 0, 254, 255, 0, 0, 0, 0, 0, 0, 0, 0, 0, 0, 50, 51, 52, 53);
    Check.memory("between inputs", () -> loaded("MA=30,99;SA{ba%16c}>A;"), due);
    int[] blank = Check.bytes(170);
    Check.set(blank, 3, 0, 0, 0, 0, 0);
    Check.memory("without inputs", () -> loaded("MA=0,99;SA@3{%8}>A;"), blank);
  }

  private static void again() {
    Check.sentence("All memory becomes 170, then");
    Check.memory("loaded again", () -> {
      LayoutDesk desk = loaded(SCRIPT);
      desk.load();
      return desk;
    }, due());
    Check.memory("started and loaded again", () -> {
      LayoutDesk desk = loaded(SCRIPT);
      desk.start();
      desk.load();
      return desk;
    }, due());
    Check.memory("laid again", () -> {
      LayoutDesk desk = loaded(SCRIPT);
      Check.same("lay again", desk.lay(), 0);
      return desk;
    }, due());
  }

  private static void refused() {
    Check.sentence("IllegalStateException: there is no layout");
    Check.memory("not loaded anew", () -> {
      LayoutDesk desk = loaded(SCRIPT);
      desk.input(0, 3, 4, 0);
      Check.badState("load without layout", desk::load);
      Check.retype(desk, "MA=0,512;SA{c}>A;SB@508{%64}>A;SC{c");
      Check.same("malformed", desk.lay(), 1);
      Check.badState("load of a malformed script", desk::load);
      Check.retype(desk, "MA=0,512;SA@99{c}>A;");
      Check.same("laid, not loaded", desk.lay(), 0);
      return desk;
    }, due());
  }
}
