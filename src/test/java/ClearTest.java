/** Promise 4. */
public final class ClearTest {
  public static void main(String[] args) {
    LayoutDesk desk = Check.laid("MA=0,64;SA{a$i}>A;");
    desk.load();
    desk.clear();
    Check.badState("section after clear", () -> desk.section(0, 0));
    Check.badState("copies after clear", desk::copies);
    Check.same("memory stays", desk.memory(0), 1);
    Check.same("empty script", desk.lay(), 0);
    Check.noElement("no section any more", () -> desk.section(0, 0));
    Check.noElement("no symbol any more", () -> desk.symbol(8));
    Check.same("no input is put", desk.put(0), -1);
    Check.same("counted anew", desk.type('M', 1), 1);
    Check.retype(desk, "MA=0,64;SA{a}>A;");
    Check.same("told anew", desk.lay(), 0);
    Check.same("inputs stay", desk.section(0, 1), 10);
    Check.retype(desk, "M");
    Check.same("malformed", desk.lay(), 1);
    desk.clear();
    Check.same("lay of nothing", desk.lay(), 0);
    Check.same("bad of nothing", desk.bad(), -1);
    Check.end();
  }
}
