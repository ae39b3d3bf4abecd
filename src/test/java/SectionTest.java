/** Promise 7, and how sections are put and loaded. */
public final class SectionTest {
  public static void main(String[] args) {
    places();
    misaligned();
    placeOfRegion();
    refused();
    Check.end();
  }

  private static void is(LayoutDesk desk, int t, int address, int size, int loadedAt) {
    Check.same("address of " + t, desk.section(t, 0), address);
    Check.same("size of " + t, desk.section(t, 1), size);
    Check.same("load of " + t, desk.section(t, 2), loadedAt);
  }

  private static void places() {
    LayoutDesk desk = Check.laid("MA=3,99;MB=301,99;SA{b%8a}>A;SB{c%32}>B^A;SC{}>B!;SD{e}>A;");
    // 3 is raised to 8; b ends at 15, 16 is a multiple of 8 and 4, a ends at 26.
    is(desk, 0, 8, 18, 8);
    // 301 is raised to 320; 325 is raised to 352; it is loaded behind A: 26 is raised to 32.
    is(desk, 1, 320, 32, 32);
    is(desk, 2, 352, 0, -1);
    is(desk, 3, 64, 0, 64);
  }

  private static void misaligned() {
    LayoutDesk desk = Check.laid("MA=0,99;MB=101,99;SA@3{a%16}>A^B;SB{b}>B;");
    // From 3 on: a at 4 to 14, then 16. Loaded at a multiple of 16.
    is(desk, 0, 3, 13, 112);
    is(desk, 1, 125, 7, 125);
    LayoutDesk late = Check.laid("MA=0,99;SA@0-(0-5){c}>A;");
    is(late, 0, 5, 8, 5);
    // Below 0 a place is raised too: from -5 to 0, and from -5 to -4.
    Check.lays("MA=0,99;SA@0-5{$i%8$j%4$k}>A;Yl=[j,1]+[k,1];", 3);
    Check.lays("MA=0,99;SA@0-5{%4$j}>A;Yl=[j,1];", 2);
    Check.lays("MA=0,99;SA@0-5{%4$j}>A;Yl=[j+4,1];", 3);
    Check.lays("MA=0,99;SA@0-5{%4$j}>A;Yl=[1-#A,1];", 3);
    Check.lays("MA=0,99;SA@0-5{%4$j}>A;Yl=[0-#A,1];", 2);
  }

  private static void placeOfRegion() {
    // The latest section counts, not the one that ends last.
    LayoutDesk desk = Check.laid("MA=0,99;SA@50{a}>A;SB@20{b}>A;SC{f}>A;SD@70{}>A!;SE{c}>A;");
    is(desk, 2, 27, 0, 27);
    is(desk, 4, 72, 5, 72);
    // A section that is told later does not count, though its letter comes before.
    LayoutDesk letters = Check.laid("MA=0,99;SH{b}>A;SA{e}>A;");
    is(letters, 7, 0, 7, 0);
    is(letters, 0, 7, 0, 7);
    // What is loaded in a region moves its place, and what is not loaded does as well.
    LayoutDesk both = Check.laid("MA=0,99;MB=100,99;MC=200,99;SA{b}>B^A;SB{f}>A;SC{g}>B;SD{a}>A!;"
        + "SE{h}>C^A;");
    is(both, 0, 100, 7, 0);
    is(both, 1, 7, 0, 7);
    is(both, 2, 107, 0, 107);
    is(both, 3, 8, 10, -1);
    is(both, 4, 200, 0, 18);
  }

  private static void refused() {
    LayoutDesk desk = Check.laid("MA=0,99;SB{b}>A;");
    for (int what : new int[] {Integer.MIN_VALUE, -1, 3, Integer.MAX_VALUE}) {
      Check.badArgument("what " + what, () -> desk.section(1, what));
      Check.badArgument("what and t " + what, () -> desk.section(99, what));
    }
    for (int t : new int[] {Integer.MIN_VALUE, -1, 0, 2, 7, 8, Integer.MAX_VALUE}) {
      Check.noElement("section " + t, () -> desk.section(t, 0));
    }
    desk.clear();
    Check.badArgument("what before layout", () -> desk.section(1, 3));
    Check.badState("layout before section", () -> desk.section(99, 0));
  }
}
