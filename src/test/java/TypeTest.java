/** Promise 3, and that a script has at most 160 characters, without blanks. */
public final class TypeTest {
  public static void main(String[] args) {
    charactersComeInOrder();
    numberOfCharacters();
    characters();
    limitIsKept();
    refusedOnesAreNotTaken();
    layoutIsGone();
    Check.end();
  }

  private static void charactersComeInOrder() {
    Check.sentence("the lowest n bytes, the highest of these first");
    LayoutDesk desk = new LayoutDesk();
    Check.same("one", desk.type('Y', 1), 1);
    Check.same("three", desk.type(Check.packed("k=7"), 3), 4);
    Check.same("bytes above are not looked at", desk.type(0x8001_0203_0405_0600L | ';', 1), 5);
    Check.same("eight", desk.type(Check.packed("Yz=k+12;"), 8), 13);
    Check.same("lay", desk.lay(), 0);
    Check.same("k", desk.symbol(10), 7);
    Check.same("z", desk.symbol(25), 19);
  }

  private static void numberOfCharacters() {
    Check.sentence("n characters (1 .. 8) more of the script: how many it has");
    for (int n = 1; n <= 8; n++) {
      LayoutDesk desk = new LayoutDesk();
      for (int length = n; length <= 160; length += n) {
        Check.same(n + " more", desk.type(0x5859595959595959L, n), length);
      }
      int left = 160 % n;
      if (left > 0) {
        Check.same(left + " more", desk.type(0x5959595959595959L, left), 160);
      }
      LayoutDesk parted = new LayoutDesk();
      String script = "MA=0,99;SA@5{a$i}>A;Yj=i-/A+1234;";
      for (int i = 0; i < script.length(); i += n) {
        String part = script.substring(i, Math.min(script.length(), i + n));
        Check.same("typed by " + n, parted.type(Check.packed(part), part.length()),
            i + part.length());
      }
      Check.same("lay of what was typed by " + n, parted.lay(), 0);
      Check.same("its symbol", parted.symbol(9), 1234);
    }
    LayoutDesk desk = new LayoutDesk();
    for (int n : new int[] {Integer.MIN_VALUE, -8, -1, 0, 9, 16, 64, Integer.MAX_VALUE}) {
      Check.badArgument("n " + n, () -> desk.type(Check.packed("AAAAAAAA"), n));
    }
    Check.same("none of these came", desk.type('A', 1), 1);
  }

  private static void characters() {
    Check.sentence("each 33 .. 126");
    LayoutDesk taken = new LayoutDesk();
    for (int c = 33; c <= 126; c++) {
      Check.same("character " + c, taken.type(c, 1), c - 32);
    }
    for (int at = 0; at < 8; at++) {
      LayoutDesk desk = new LayoutDesk();
      for (int c = 0; c < 256; c++) {
        long others = 0x4141414141414141L & ~(255L << 8 * at);
        long text = others | (long) c << 8 * at;
        if (c < 33 || c > 126) {
          Check.badArgument("character " + c + " at " + at, () -> desk.type(text, 8));
          // Above the lowest n bytes it is not looked at.
          if (at > 0 && c % 16 == 0) {
            desk.type(text, at);
            desk.clear();
          }
        }
      }
      Check.same("33 at " + at, desk.type(0x2121212121212121L, 8), 8);
      Check.same("126 at " + at, desk.type(0x7E7E7E7E7E7E7E7EL, 8), 16);
    }
    LayoutDesk desk = new LayoutDesk();
    for (int n = 1; n <= 8; n++) {
      int many = n;
      long highest = 0x4141414141414141L & ~(255L << 8 * (n - 1)) | 32L << 8 * (n - 1);
      Check.badArgument("a blank as the highest of " + n, () -> desk.type(highest, many));
      Check.badArgument("127 as the lowest of " + n, () -> desk.type(0x414141414141417FL, many));
    }
  }

  private static void limitIsKept() {
    Check.sentence("there would be more than 160");
    for (int n = 1; n <= 8; n++) {
      int many = n;
      LayoutDesk desk = new LayoutDesk();
      for (int length = 8; length < 160; length += 8) {
        desk.type(Check.packed("XXXXXXXX"), 8);
      }
      if (n < 8) {
        desk.type(Check.packed("XXXXXXXX"), 8 - n);
      }
      Check.same("up to 160 by " + n, desk.type(Check.packed("XXXXXXXX"), n), 160);
      Check.badState("161 behind a full one", () -> desk.type('X', 1));
      Check.badState(160 + n + " behind a full one", () -> desk.type(0x5858585858585858L, many));
      Check.same("still malformed", desk.lay(), 1);
      desk.clear();
      Check.same("emptied", desk.type(Check.packed("XXXXXXXX"), n), n);
    }
  }

  private static void refusedOnesAreNotTaken() {
    Check.sentence("IllegalStateException: there would be more than 160");
    LayoutDesk desk = new LayoutDesk();
    Check.type(desk, "Yi=1" + "+1".repeat(74) + ";");
    Check.same("to 159", desk.type(Check.packed("Yj=i+1"), 6), 159);
    Check.badState("161", () -> desk.type(Check.packed(";;"), 2));
    Check.badArgument("a wrong character before too many", () -> desk.type(0, 2));
    Check.badArgument("a wrong number before too many", () -> desk.type(';', 9));
    Check.same("160", desk.type(';', 1), 160);
    Check.same("lay of 160", desk.lay(), 0);
    Check.badState("161 after 160", () -> desk.type(';', 1));
    Check.same("the layout stays", desk.symbol(9), 76);
    Check.same("lay again", desk.lay(), 0);
    Check.same("the script stays", desk.symbol(9), 76);
  }

  private static void layoutIsGone() {
    Check.sentence("There is no layout any more");
    LayoutDesk desk = Check.laid("MA=0,9;SA{$i}>A;");
    desk.type('Y', 1);
    Check.noLayout("behind type", desk);
    desk.type(Check.packed("j=1;"), 4);
    Check.noLayout("before lay", desk);
    Check.same("lay", desk.lay(), 0);
    Check.same("the old and", desk.symbol(8), 0);
    Check.same("the new", desk.symbol(9), 1);
  }
}
