/** Promise 9, and what expressions give. */
public final class SymbolTest {
  public static void main(String[] args) {
    gives("7", 7);
    gives("0000", 0);
    gives("9999", 9999);
    gives("1-2-3", -4);
    gives("1-(2-3)", 2);
    gives("10-2+3", 11);
    gives("[0,64]", 0);
    gives("[1,64]", 64);
    gives("[64,64]", 64);
    gives("[65,64]", 128);
    gives("[5,1]", 5);
    gives("[5,2]", 6);
    gives("[3-1,4]-[5+[6,4],0016]", -12);
    gives("/A", 16);
    gives("#A", 10);
    gives("|A", 200);
    gives("|B", -1);
    gives("/B-#B", 19);
    gives("j", 26);
    gives("k+k", 32);
    gives("(((((j)-1)-1)-1)-1)", 22);
    places();
    refused();
    Check.end();
  }

  /** A runs from 16 up to 26 and is loaded at 200; B runs from 26 up to 33 and is not loaded. */
  private static void gives(String expression, int due) {
    LayoutDesk desk = Check.laid("MA=16,99;MB=200,99;SA{$ka$j}>A^B;Yi=" + expression
        + ";SB{%2b}>A!;");
    Check.same(expression, desk.symbol(8), due);
  }

  private static void places() {
    // A symbol is the place before what stands behind it is raised.
    LayoutDesk desk = Check.laid("MA=0,99;MB=200,99;SA{b$ia$j%16$k}>A;SB@203{$l%8$m}>B;");
    Check.same("i", desk.symbol(8), 7);
    Check.same("j", desk.symbol(9), 18);
    Check.same("k", desk.symbol(10), 32);
    Check.same("l", desk.symbol(11), 203);
    Check.same("m", desk.symbol(12), 208);
  }

  private static void refused() {
    LayoutDesk desk = Check.laid("Yi=1;Yz=2;");
    Check.same("i", desk.symbol(8), 1);
    Check.same("z", desk.symbol(25), 2);
    for (int v : new int[] {Integer.MIN_VALUE, -1, 0, 7, 26, Integer.MAX_VALUE}) {
      Check.badArgument("symbol " + v, () -> desk.symbol(v));
    }
    for (int v = 9; v < 25; v++) {
      int untold = v;
      Check.noElement("symbol " + v, () -> desk.symbol(untold));
    }
    desk.clear();
    Check.badArgument("argument before layout", () -> desk.symbol(26));
    Check.badState("layout before symbol", () -> desk.symbol(9));
  }
}
