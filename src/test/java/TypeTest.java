/** Promise 3. */
public final class TypeTest {
  public static void main(String[] args) {
    charactersComeInOrder();
    onlyCharactersAreTaken();
    limitIsKept();
    layoutIsGone();
    Check.end();
  }

  private static void charactersComeInOrder() {
    LayoutDesk desk = new LayoutDesk();
    Check.same("one", desk.type('Y', 1), 1);
    Check.same("three", desk.type(Check.packed("k=7"), 3), 4);
    Check.same("bytes above are not looked at", desk.type(0x8001_0203_0405_0600L | ';', 1), 5);
    Check.same("eight", desk.type(Check.packed("Yz=k+12;"), 8), 13);
    Check.same("lay", desk.lay(), 0);
    Check.same("k", desk.symbol(10), 7);
    Check.same("z", desk.symbol(25), 19);
  }

  private static void onlyCharactersAreTaken() {
    LayoutDesk desk = Check.laid("Yk=7;");
    for (int n : new int[] {Integer.MIN_VALUE, -1, 0, 9, Integer.MAX_VALUE}) {
      Check.badArgument("n " + n, () -> desk.type(Check.packed("AAAAAAAA"), n));
    }
    for (int c = 0; c < 256; c++) {
      if (c < 33 || c > 126) {
        long text = c;
        Check.badArgument("character " + c, () -> desk.type(text, 1));
        Check.badArgument("first character " + c, () -> desk.type(text << 56 | 0x41414141414141L, 8));
        Check.badArgument("character amidst " + c, () -> desk.type(text << 8 | 0x410041L, 3));
      }
    }
    Check.same("the layout stays", desk.symbol(10), 7);
    Check.same("33 and 126 are taken, nothing else came", desk.type(33 << 8 | 126, 2), 7);
    Check.same("lay", desk.lay(), 1);
    Check.same("bad", desk.bad(), 5);
  }

  private static void limitIsKept() {
    LayoutDesk desk = new LayoutDesk();
    Check.type(desk, "Yi=1" + "+1".repeat(74) + ";");
    Check.same("to 159", desk.type(Check.packed("Yj=i+1"), 6), 159);
    Check.badState("161", () -> desk.type(Check.packed(";;"), 2));
    Check.badArgument("a wrong character before too many", () -> desk.type(0, 2));
    Check.same("160", desk.type(';', 1), 160);
    Check.same("lay of 160", desk.lay(), 0);
    Check.badState("161 after 160", () -> desk.type(';', 1));
    Check.same("the layout stays", desk.symbol(9), 76);
    Check.same("lay again", desk.lay(), 0);
  }

  private static void layoutIsGone() {
    LayoutDesk desk = Check.laid("Yk=7;");
    desk.type('Y', 1);
    Check.badState("symbol after type", () -> desk.symbol(10));
  }
}
