/** Promise 8. */
public final class PutTest {
  public static void main(String[] args) {
    whereItRuns();
    raised();
    standsNowhere();
    refused();
    Check.end();
  }

  private static void whereItRuns() {
    Check.sentence("Where an input was put");
    LayoutDesk desk = Check.laid("MA=1,199;MB=300,99;SA{ba}>A;SB{%8ed}>A^B;SC@207-60{hc}>A!;");
    // A begins at 4: b ends at 11, a begins at 12. B begins at 32.
    Check.same("b", desk.put(1), 4);
    Check.same("a", desk.put(0), 12);
    Check.same("e is where it runs", desk.put(4), 32);
    Check.same("d", desk.put(3), 32);
    Check.same("h, unraised, not loaded", desk.put(7), 147);
    Check.same("c, raised, not loaded", desk.put(2), 152);
    Check.same("f stands nowhere", desk.put(5), -1);
  }

  private static void raised() {
    Check.sentence("an input raises the place to a multiple of its alignment, is put there");
    for (int address = 0; address <= 33; address++) {
      LayoutDesk desk = Check.laid("MA=0,512;SA@" + address + "{cad}>A;");
      int c = (address + 7) / 8 * 8;
      int a = (c + 5 + 3) / 4 * 4;
      Check.same("c from " + address, desk.put(2), c);
      Check.same("a behind it", desk.put(0), a);
      Check.same("d behind it", desk.put(3), (a + 10 + 15) / 16 * 16);
    }
    LayoutDesk empty = new LayoutDesk();
    empty.input(0, 0, 16, 0);
    empty.input(1, 0, 1, 0);
    Check.type(empty, "MA=0,512;SA@1{bag}>A;SB@512{c}>A;");
    Check.same("lay", empty.lay(), 0);
    Check.same("an empty input before", empty.put(1), 1);
    Check.same("an empty input is raised as well", empty.put(0), 16);
    Check.same("and what stands behind it", empty.put(6), 16);
    Check.same("an empty input at the end of memory", empty.put(2), 512);
  }

  private static void standsNowhere() {
    Check.sentence("-1 when it stands in no section");
    LayoutDesk nothing = Check.laid("");
    LayoutDesk sections = Check.laid("MA=0,99;SA{}>A;SB{%4$i}>A;");
    for (int k = 0; k < 8; k++) {
      Check.same("input " + k + " without sections", nothing.put(k), -1);
      Check.same("input " + k + " without items", sections.put(k), -1);
      LayoutDesk one = Check.laid("MA=5,0;SA{}>A;MB=16,99;SB{" + (char) ('a' + k) + "}>B;");
      for (int other = 0; other < 8; other++) {
        Check.same("input " + other + " with " + k, one.put(other), other == k ? 16 : -1);
      }
    }
    LayoutDesk desk = Check.laid("MA=1,199;SA{ab}>A;");
    Check.retype(desk, "MA=1,199;SA{b}>A;");
    Check.same("lay", desk.lay(), 0);
    Check.same("b anew", desk.put(1), 1);
    Check.same("a stands nowhere any more", desk.put(0), -1);
  }

  private static void refused() {
    LayoutDesk desk = Check.laid("MA=1,199;SA{b}>A;");
    Check.sentence("IllegalArgumentException: there is none");
    for (int k : new int[] {Integer.MIN_VALUE, -1, 8, Integer.MAX_VALUE}) {
      Check.badArgument("put " + k, () -> desk.put(k));
    }
    Check.same("b still", desk.put(1), 1);
    Check.sentence("IllegalStateException: there is no layout");
    desk.clear();
    Check.badArgument("argument before layout", () -> desk.put(8));
    Check.badState("no layout", () -> desk.put(1));
  }
}
