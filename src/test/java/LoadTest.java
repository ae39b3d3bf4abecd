/** Promise 12. */
public final class LoadTest {
  private static final String SCRIPT = "MA=0,99;MB=201,99;SA@5{ab%8}>A^B;SB{c}>A;SC{d}>A!;";

  public static void main(String[] args) {
    // A from 5 on: a at 8, b at 11, then up to 16; it is loaded at 208. C is not loaded.
    int[] due = Check.bytes(170);
    Check.set(due, 208, 0, 0, 0, 254, 255, 0, 9, 10, 0, 0, 0);
    Check.set(due, 16, 50, 51, 52, 53);
    Check.memory("loaded", LoadTest::loaded, due);
    Check.memory("loaded again", LoadTest::loadedAgain, due);
    Check.memory("not loaded anew", LoadTest::notLoadedAnew, due);

    int[] last = Check.bytes(170);
    Check.set(last, 507, 0, 50, 51, 52, 53);
    Check.memory("loaded at the end", LoadTest::loadedAtTheEnd, last);
    Check.memory("laid alone", LoadTest::laid, Check.bytes(0));
    Check.end();
  }

  private static LayoutDesk laid() {
    LayoutDesk desk = new LayoutDesk();
    desk.input(0, 3, 4, 254);
    desk.input(1, 2, 1, 9);
    desk.input(2, 4, 2, 50);
    desk.input(3, 2, 1, 77);
    Check.type(desk, SCRIPT);
    Check.same("lay", desk.lay(), 0);
    return desk;
  }

  private static LayoutDesk loaded() {
    LayoutDesk desk = laid();
    desk.load();
    return desk;
  }

  private static LayoutDesk loadedAgain() {
    LayoutDesk desk = loaded();
    desk.start();
    desk.load();
    return desk;
  }

  private static LayoutDesk notLoadedAnew() {
    LayoutDesk desk = loaded();
    desk.input(0, 3, 4, 0);
    Check.badState("load without layout", desk::load);
    Check.retype(desk, "MA=0,512;SA{c}>A;SB@508{%64}>A;SC{c");
    Check.same("malformed", desk.lay(), 1);
    Check.badState("load of a malformed script", desk::load);
    Check.retype(desk, "MA=0,512;SA@99{c}>A;");
    Check.same("laid, not loaded", desk.lay(), 0);
    return desk;
  }

  private static LayoutDesk loadedAtTheEnd() {
    LayoutDesk desk = loaded();
    Check.retype(desk, "MA=0,512;SA@507{c}>A;");
    Check.same("at the end", desk.lay(), 0);
    desk.load();
    return desk;
  }
}
