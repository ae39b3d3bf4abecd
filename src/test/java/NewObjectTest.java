/** Promise 1. */
public final class NewObjectTest {
  public static void main(String[] args) {
    LayoutDesk desk = new LayoutDesk();
    Check.memory("new", LayoutDesk::new, Check.bytes(0));
    Check.same("bad of a new desk", desk.bad(), -1);
    Check.badState("new section", () -> desk.section(0, 0));
    Check.badState("new put", () -> desk.put(0));
    Check.badState("new symbol", () -> desk.symbol(8));
    Check.badState("new copies", desk::copies);
    Check.badState("new copy", () -> desk.copy(0, 0));
    Check.badState("new load", desk::load);
    Check.badState("new start", desk::start);
    Check.same("first character", desk.type('Y', 1), 1);

    LayoutDesk empty = new LayoutDesk();
    Check.same("empty script", empty.lay(), 0);
    Check.same("its copies", empty.copies(), 0);

    LayoutDesk used = Check.laid("MA=0,64;SA{a}>A;");
    used.load();
    Check.same("desks share nothing", new LayoutDesk().memory(0), 0);
    newInputsAreEmpty();
    Check.end();
  }

  private static void newInputsAreEmpty() {
    LayoutDesk desk = new LayoutDesk();
    Check.type(desk, "MA=3,64;SA{abcdefgh}>A;");
    Check.same("all new inputs", desk.lay(), 0);
    Check.same("their section", desk.section(0, 0), 3);
    Check.same("its size", desk.section(0, 1), 0);
    for (int k = 0; k < 8; k++) {
      Check.same("new input " + k, desk.put(k), 3);
    }
  }
}
