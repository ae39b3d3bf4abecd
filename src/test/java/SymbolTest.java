/** Promise 9, and what expressions give. */
public final class SymbolTest {
  public static void main(String[] args) {
    numbers();
    fromTheLeft();
    ofSections();
    raised();
    nested();
    places();
    everySymbol();
    refused();
    Check.end();
  }

  /** A runs from 16 up to 26 and is loaded at 200; B runs from 26 up to 33 and is not loaded. */
  private static void gives(String expression, int due) {
    LayoutDesk desk = Check.laid("MA=16,99;MB=200,99;SA{$ka$j}>A^B;Yi=" + expression
        + ";SB{%2b}>A!;");
    Check.same(expression, desk.symbol(8), due);
    LayoutDesk address = Check.typed("MA=16,99;MB=200,99;SA{$ka$j}>A^B;SB{%2b}>A!;MC=0,512;SC@"
        + expression + "{$i}>C;");
    int answer = address.lay();
    if (due < 0) {
      Check.same("lay with the address " + expression, answer, 3);
    } else if (answer == 0) {
      Check.same("the address " + expression, address.section(2, 0), due);
    } else {
      Check.same("lay with the address " + expression + " beyond 512", answer == 3 && due > 512, true);
    }
  }

  private static void numbers() {
    Check.sentence("A number: 1 to 4 digits");
    gives("0", 0);
    gives("7", 7);
    gives("10", 10);
    gives("512", 512);
    gives("9999", 9999);
    gives("0000", 0);
    gives("0010", 10);
    gives("0999", 999);
  }

  private static void fromTheLeft() {
    Check.sentence("TERMS with + or - between, reckoned from the left");
    gives("1-2-3", -4);
    gives("1-(2-3)", 2);
    gives("10-2+3", 11);
    gives("10-(2+3)", 5);
    gives("10-9-8-7", -14);
    gives("0-0", 0);
    gives("3-3+3-3+3", 3);
    gives("9999+1", 10000);
    gives("0-9999", -9999);
  }

  private static void ofSections() {
    Check.sentence("/ T, the address of a section; | T, where it is loaded (-1 when not); # T, its size");
    gives("/A", 16);
    gives("#A", 10);
    gives("|A", 200);
    gives("/B", 26);
    gives("#B", 7);
    gives("|B", -1);
    gives("0-|B", 1);
    gives("/B-#B", 19);
    LayoutDesk desk = Check.laid("MA=9,9;SA{}>A;SB{}>A!;Yi=/A;Yj=|A;Yk=#A;Yl=/B;Ym=|B;Yn=#B;");
    int[] due = {9, 9, 0, 9, -1, 0};
    for (int n = 0; n < due.length; n++) {
      Check.same("of an empty section, symbol " + (8 + n), desk.symbol(8 + n), due[n]);
    }
  }

  private static void raised() {
    Check.sentence("the least multiple of the number that is not below the expression");
    for (int n = 1; n <= 64; n *= 2) {
      for (int from : new int[] {0, 1, n - 1, n, n + 1, 2 * n - 1, 2 * n, 2 * n + 1, 9999}) {
        int due = from;
        while (due % n != 0) {
          due++;
        }
        gives("[" + from + "," + n + "]", due);
      }
    }
    gives("[3-1,4]-[5+[6,4],0016]", -12);
    gives("[|A,64]", 256);
    gives("[|B+1,64]", 0);
  }

  private static void nested() {
    Check.sentence("Brackets are at most 5 within one another");
    gives("(((((j)-1)-1)-1)-1)", 22);
    gives("(1+(1+(1+(1+(1)))))", 5);
    gives("(1-(1-(1-(1-(1-2)))))", -1);
    gives("[1+[1+[1+[1+[1,2],4],8],16],32]", 32);
    gives("([(0+[(5),8])-7,2])", 2);
    gives("((((5))))-(((((3)))))", 2);
  }

  private static void places() {
    Check.sentence("$ v: symbol v is the place that is come to");
    gives("j", 26);
    gives("k+k", 32);
    // The place is the one before what stands behind it is raised.
    LayoutDesk desk = Check.laid("MA=0,99;MB=200,99;SA{b$ia$j%16$k}>A;SB@203{$l%8$m}>B;");
    Check.same("i", desk.symbol(8), 7);
    Check.same("j", desk.symbol(9), 18);
    Check.same("k", desk.symbol(10), 32);
    Check.same("l", desk.symbol(11), 203);
    Check.same("m", desk.symbol(12), 208);
    // It is the place where the section runs, not where it is loaded; and so if it is not loaded.
    LayoutDesk elsewhere = Check.laid("MA=10,99;MB=200,99;SA{b$i}>A^B;SB{$je}>A!;SC{$k}>A;");
    Check.same("i", elsewhere.symbol(8), 17);
    Check.same("j", elsewhere.symbol(9), 17);
    Check.same("k", elsewhere.symbol(10), 17);
  }

  private static void everySymbol() {
    Check.sentence("A symbol (i is 8, as a letter's number from a on)");
    StringBuilder script = new StringBuilder();
    for (int v = 8; v <= 25; v++) {
      script.append('Y').append((char) ('a' + v)).append('=').append(3 * v).append(';');
    }
    LayoutDesk desk = Check.laid(script.toString());
    for (int v = 8; v <= 25; v++) {
      Check.same("symbol " + v, desk.symbol(v), 3 * v);
    }
  }

  private static void refused() {
    LayoutDesk desk = Check.laid("Yi=1;Yz=2;");
    Check.same("i", desk.symbol(8), 1);
    Check.same("z", desk.symbol(25), 2);
    Check.sentence("IllegalArgumentException: it is not 8 .. 25");
    for (int v : new int[] {Integer.MIN_VALUE, -1, 0, 7, 26, 'i', Integer.MAX_VALUE}) {
      Check.badArgument("symbol " + v, () -> desk.symbol(v));
    }
    Check.sentence("NoSuchElementException: it was not told");
    for (int v = 9; v < 25; v++) {
      int untold = v;
      Check.noElement("symbol " + v, () -> desk.symbol(untold));
    }
    Check.same("i still", desk.symbol(8), 1);
    desk.clear();
    Check.sentence("IllegalStateException: there is no layout");
    Check.badArgument("argument before layout", () -> desk.symbol(26));
    Check.badState("layout before symbol", () -> desk.symbol(9));
    Check.badState("what was told", () -> desk.symbol(8));
  }
}
