/** Promise 2, and the term INPUTS. */
public final class InputTest {
  private static final int[] FAR = {Integer.MIN_VALUE, Integer.MAX_VALUE};

  public static void main(String[] args) {
    numbers();
    sizes();
    alignments();
    seeds();
    bytes();
    atFirst();
    refusedOnesAreNotTaken();
    layoutIsGone();
    Check.end();
  }

  private static LayoutDesk desk(String script) {
    LayoutDesk desk = new LayoutDesk();
    Check.type(desk, script);
    return desk;
  }

  private static void numbers() {
    Check.sentence("INPUTS a .. h (0 .. 7)");
    LayoutDesk desk = desk("MA=0,512;SA{abcdefgh}>A;");
    for (int k = 0; k < 8; k++) {
      desk.input(k, k + 1, 1, 10 * k);
    }
    Check.same("lay", desk.lay(), 0);
    desk.load();
    int place = 0;
    for (int k = 0; k < 8; k++) {
      Check.same("place of " + k, desk.put(k), place);
      Check.same("first byte of " + k, desk.memory(place), 10 * k);
      place += k + 1;
    }
    Check.same("their size", desk.section(0, 1), 36);
    for (int k : new int[] {-1, 8, FAR[0], FAR[1]}) {
      Check.badArgument("input " + k, () -> desk.input(k, 1, 1, 0));
    }
  }

  private static void sizes() {
    Check.sentence("have a size, 0 to 40 bytes");
    LayoutDesk desk = desk("MA=0,512;SA{a}>A;");
    for (int size = 0; size <= 40; size++) {
      desk.input(0, size, 1, 0);
      Check.same("lay with size " + size, desk.lay(), 0);
      Check.same("size " + size, desk.section(0, 1), size);
    }
    for (int size : new int[] {-1, 41, 42, 100, FAR[0], FAR[1]}) {
      Check.badArgument("size " + size, () -> desk.input(0, size, 1, 0));
      Check.same("size behind the refused " + size, desk.section(0, 1), 40);
    }
  }

  private static void alignments() {
    Check.sentence("an alignment, 1 2 4 8 or 16");
    LayoutDesk desk = desk("MA=1,99;SA{a}>A;");
    for (int align = -40; align <= 140; align++) {
      int tried = align;
      if (align == 1 || align == 2 || align == 4 || align == 8 || align == 16) {
        desk.input(0, 3, align, 0);
        Check.same("lay with alignment " + align, desk.lay(), 0);
        Check.same("begin with alignment " + align, desk.section(0, 0), align);
      } else {
        Check.badArgument("alignment " + align, () -> desk.input(0, 3, tried, 0));
      }
    }
    for (int align : new int[] {256, 1 << 16, 1 << 30, FAR[0], FAR[1]}) {
      Check.badArgument("alignment " + align, () -> desk.input(0, 3, align, 0));
    }
    Check.same("the last one taken", desk.section(0, 0), 16);
  }

  private static void seeds() {
    Check.sentence("and a seed, 0 to 255");
    LayoutDesk desk = desk("MA=0,9;SA{a}>A;");
    for (int seed : new int[] {0, 1, 127, 128, 254, 255}) {
      desk.input(0, 1, 1, seed);
      Check.same("lay with seed " + seed, desk.lay(), 0);
      desk.load();
      Check.same("seed " + seed, desk.memory(0), seed);
    }
    for (int seed : new int[] {-1, -128, 256, 257, FAR[0], FAR[1]}) {
      Check.badArgument("seed " + seed, () -> desk.input(0, 1, 1, seed));
      desk.load();
      Check.same("seed behind the refused " + seed, desk.memory(0), 255);
    }
  }

  private static void bytes() {
    Check.sentence("byte i of an input is seed + i, modulo 256");
    for (int seed : new int[] {0, 215, 216, 217, 218, 255}) {
      LayoutDesk desk = desk("MA=0,99;SA@3{a}>A;");
      desk.input(0, 40, 1, seed);
      Check.same("lay", desk.lay(), 0);
      desk.load();
      for (int i = 0; i < 40; i++) {
        int due = seed + i < 256 ? seed + i : seed + i - 256;
        Check.same("byte " + i + " of seed " + seed, desk.memory(3 + i), due);
      }
      Check.same("behind the last", desk.memory(43), 170);
    }
  }

  private static void atFirst() {
    Check.sentence("At first all are 0, alignment 1");
    for (char k = 'a'; k <= 'h'; k++) {
      LayoutDesk desk = desk("MA=3,0;SA{" + k + "}>A;");
      Check.same("lay with a new " + k, desk.lay(), 0);
      Check.same("size of a new " + k, desk.section(0, 1), 0);
      Check.same("place of a new " + k, desk.put(k - 'a'), 3);
    }
  }

  private static void refusedOnesAreNotTaken() {
    Check.sentence("IllegalArgumentException: a number is not as said");
    LayoutDesk desk = Check.laid("MA=0,64;SA{a}>A;");
    Check.badArgument("a wrong size with another alignment", () -> desk.input(0, 41, 16, 9));
    Check.badArgument("a wrong alignment with another size", () -> desk.input(0, 20, 3, 9));
    Check.badArgument("a wrong seed with another size", () -> desk.input(0, 20, 16, 256));
    Check.same("the layout stays", desk.section(0, 1), 10);
    Check.retype(desk, "MA=1,64;SA{a}>A;");
    Check.same("lay again", desk.lay(), 0);
    Check.same("the size stays", desk.section(0, 1), 10);
    Check.same("the alignment stays", desk.section(0, 0), 4);
    desk.load();
    Check.same("the seed stays", desk.memory(4), 1);
  }

  private static void layoutIsGone() {
    Check.sentence("There is no layout any more");
    for (int k = 0; k < 8; k++) {
      LayoutDesk desk = Check.laid("MA=0,64;SA{a$i}>A;");
      desk.input(k, k == 0 ? 10 : 0, k == 0 ? 4 : 1, k == 0 ? 1 : 0);
      Check.noLayout("behind input " + k, desk);
      Check.same("the script stays", desk.lay(), 0);
      Check.same("laid as before", desk.section(0, 1), 10);
    }
  }
}
