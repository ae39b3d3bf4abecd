/** Promise 4. */
public final class ClearTest {
  public static void main(String[] args) {
    LayoutDesk desk = Check.laid("MA=0,64;SA{a$i}>A;");
    desk.load();
    desk.clear();
    Check.badState("section after clear", () -> desk.section(0, 0));
    Check.badState("copies after clear", desk::copies);
    Check.same("memory stays", desk.memory(0), 1);
    Check.same("empty script", desk.lay(), 0);
    Check.noElement("no section any more", () -> desk.section(0, 0));
    Check.noElement("no symbol any more", () -> desk.symbol(8));
    Check.same("no input is put", desk.put(0), -1);
    Check.same("counted anew", desk.type('M', 1), 1);
    Check.retype(desk, "MA=0,64;SA{a}>A;");
    Check.same("told anew", desk.lay(), 0);
    Check.same("inputs stay", desk.section(0, 1), 10);
    Check.retype(desk, "M");
    Check.same("malformed", desk.lay(), 1);
    desk.clear();
    Check.same("lay of nothing", desk.lay(), 0);
    Check.same("bad of nothing", desk.bad(), -1);
    nothingIsLeftBehind();
    laidOftenAgain();
    Check.end();
  }

  /** Each letter is told anew in another way than before. */
  private static void nothingIsLeftBehind() {
    LayoutDesk desk = Check.laid("MA=0,99;MB=100,99;SA@40{b$i}>A!;SB@50{a}>A^B;Yj=9;Yk=#A;");
    Check.retype(desk, "MB=10,80;SB{b$j}>B;SA{$ka}>B;Yi=j;");
    Check.same("lay", desk.lay(), 0);
    Check.same("B", desk.section(1, 0), 10);
    Check.same("B's load", desk.section(1, 2), 10);
    Check.same("A", desk.section(0, 0), 20);
    Check.same("A's load", desk.section(0, 2), 20);
    Check.same("i", desk.symbol(8), 17);
    Check.same("j", desk.symbol(9), 17);
    Check.same("k", desk.symbol(10), 20);
    Check.same("copies", desk.copies(), 0);
    Check.retype(desk, "SA{}>A;");
    Check.same("region A is not told any more", desk.lay(), 1);
    Check.same("where", desk.bad(), 5);
    Check.retype(desk, "Yi=j;");
    Check.same("j is not told any more", desk.lay(), 2);
    Check.retype(desk, "Yi=/A;");
    Check.same("A is not told any more", desk.lay(), 2);
    Check.retype(desk, "Yi=|A;");
    Check.same("nor is where it is loaded", desk.lay(), 2);
    Check.retype(desk, "Yi=j;Yj=i;");
    Check.same("cyclic, though both had values", desk.lay(), 2);
  }

  private static void laidOftenAgain() {
    LayoutDesk desk = Check.typed("MA=0,99;SA{%1%1%1%1%1%1%1%1%1%1a%8$i}>A;Yj=i+1+1+1+1+1+1+1+1;");
    for (int n = 0; n < 200; n++) {
      Check.same("lay " + n, desk.lay(), 0);
      Check.same("size " + n, desk.section(0, 1), 16);
    }
    Check.same("j", desk.symbol(9), 24);
    LayoutDesk failing = Check.typed("Yi=1+(1+(1+(1+(1+j))));");
    for (int n = 0; n < 200; n++) {
      Check.same("failing lay " + n, failing.lay(), 2);
    }
    Check.type(failing, "Yj=1;");
    Check.same("lay at last", failing.lay(), 0);
    Check.same("i", failing.symbol(8), 6);
  }
}
