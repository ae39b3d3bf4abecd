/** Promise 8. */
public final class PutTest {
  public static void main(String[] args) {
    LayoutDesk desk = Check.laid("MA=1,199;MB=300,99;SA{ba}>A;SB{%8ed}>A^B;SC@207-60{hc}>A!;");
    // A begins at 4: b ends at 11, a begins at 12. B begins at 32.
    Check.same("b", desk.put(1), 4);
    Check.same("a", desk.put(0), 12);
    Check.same("e is where it runs", desk.put(4), 32);
    Check.same("d", desk.put(3), 32);
    Check.same("h, unraised", desk.put(7), 147);
    Check.same("c, raised", desk.put(2), 152);
    Check.same("f stands nowhere", desk.put(5), -1);
    for (int k : new int[] {Integer.MIN_VALUE, -1, 8, Integer.MAX_VALUE}) {
      Check.badArgument("put " + k, () -> desk.put(k));
    }
    Check.retype(desk, "MA=1,199;SA{b}>A;");
    Check.badArgument("argument before layout", () -> desk.put(8));
    Check.badState("no layout", () -> desk.put(0));
    Check.same("lay", desk.lay(), 0);
    Check.same("b anew", desk.put(1), 1);
    Check.same("a stands nowhere any more", desk.put(0), -1);
    Check.end();
  }
}
