/** Promise 7, and the terms: how a section is put, where it is loaded, the place of a region. */
public final class SectionTest {
  public static void main(String[] args) {
    emptyOnes();
    raisedByItems();
    raisedByTheGreatest();
    withAnAddress();
    size();
    raisedBelowZero();
    loaded();
    originWithoutASectionBefore();
    latestSectionBefore();
    runsOrIsLoadedThere();
    places();
    all();
    refused();
    Check.end();
  }

  private static void is(LayoutDesk desk, int t, int address, int size, int loadedAt) {
    Check.same("address of " + t, desk.section(t, 0), address);
    Check.same("size of " + t, desk.section(t, 1), size);
    Check.same("load of " + t, desk.section(t, 2), loadedAt);
  }

  private static int multiple(int from, int of) {
    int place = from;
    while (place % of != 0) {
      place++;
    }
    return place;
  }

  private static void emptyOnes() {
    Check.sentence("raised to a multiple of the greatest alignment (1 without any)");
    for (int origin : new int[] {0, 1, 3, 63, 511, 512}) {
      is(Check.laid("MA=" + origin + ",0;SA{}>A;"), 0, origin, 0, origin);
      is(Check.laid("MA=" + origin + ",0;SA{$i}>A;"), 0, origin, 0, origin);
      is(Check.laid("MA=" + origin + ",0;SA{}>A!;"), 0, origin, 0, -1);
      is(Check.laid("MA=" + origin + ",0;SA{e%1}>A;"), 0, origin, 0, origin);
    }
  }

  private static void raisedByItems() {
    Check.sentence("it begins at the place of its region R, raised to a multiple");
    for (int align = 1; align <= 64; align *= 2) {
      for (int origin : new int[] {0, 1, align - 1, align, align + 1, 2 * align, 65, 127, 128, 129}) {
        int due = multiple(origin, align);
        is(Check.laid("MA=" + origin + ",200;SA{%" + align + "}>A;"), 0, due, 0, due);
        LayoutDesk desk = new LayoutDesk();
        desk.input(7, 3, Math.min(align, 16), 0);
        Check.type(desk, "MA=" + origin + ",200;SA{h}>A;");
        Check.same("lay", desk.lay(), 0);
        due = multiple(origin, Math.min(align, 16));
        is(desk, 0, due, 3, due);
      }
    }
  }

  private static void raisedByTheGreatest() {
    Check.sentence("the greatest alignment of its inputs and % items");
    // a is aligned by 4, b by 1, c by 8, d by 16.
    Check.same("of two inputs", Check.laid("MA=1,99;SA{bc}>A;").section(0, 0), 8);
    Check.same("of two inputs, turned", Check.laid("MA=1,99;SA{cb}>A;").section(0, 0), 8);
    Check.same("of % behind an input", Check.laid("MA=1,99;SA{a%32}>A;").section(0, 0), 32);
    Check.same("of % before an input", Check.laid("MA=1,99;SA{%32a}>A;").section(0, 0), 32);
    Check.same("of a lesser %", Check.laid("MA=1,99;SA{d%2}>A;").section(0, 0), 16);
    Check.same("of two %", Check.laid("MA=1,99;SA{%64%2}>A;").section(0, 0), 64);
    Check.same("of its own items alone",
        Check.laid("MA=1,199;SA{b}>A;SB{%64}>A!;SC{d}>A;").section(0, 0), 1);
    LayoutDesk desk = new LayoutDesk();
    desk.input(0, 0, 16, 0);
    Check.type(desk, "MA=1,99;SA{a}>A;");
    Check.same("lay", desk.lay(), 0);
    is(desk, 0, 16, 0, 16);
  }

  private static void withAnAddress() {
    Check.sentence("with one, there");
    for (int address = 0; address <= 16; address++) {
      // a is raised to a multiple of 4 from the beginning on; % then to one of 16.
      int end = multiple(multiple(address, 4) + 10, 16);
      LayoutDesk desk = Check.laid("MA=0,99;SA@" + address + "{a%16}>A;");
      is(desk, 0, address, end - address, address);
      Check.same("a", desk.put(0), multiple(address, 4));
    }
    is(Check.laid("MA=0,99;SA@0-(0-5){c}>A;"), 0, 5, 8, 5);
    is(Check.laid("MA=7,99;SA@99{}>A;"), 0, 99, 0, 99);
  }

  private static void size() {
    Check.sentence("Its SIZE is where it ends less where it begins");
    is(Check.laid("MA=0,99;SA{b%8}>A;"), 0, 0, 8, 0);
    is(Check.laid("MA=0,99;SA{b%8a}>A;"), 0, 0, 18, 0);
    is(Check.laid("MA=0,99;SA@1{%64}>A;"), 0, 1, 63, 1);
    is(Check.laid("MA=0,99;SA@64{%64}>A;"), 0, 64, 0, 64);
    is(Check.laid("MA=0,512;SA{dabc}>A;"), 0, 0, 69, 0);
  }

  private static void raisedBelowZero() {
    Check.sentence("raises the place to a multiple, also below 0");
    // From -5 to 0, and from -5 to -4: seen by what is reckoned of it, before it overflows.
    Check.lays("MA=0,99;SA@0-5{$i%8$j%4$k}>A;Yl=[j,1]+[k,1];", 3);
    Check.lays("MA=0,99;SA@0-5{%4$j}>A;Yl=[j,1];", 2);
    Check.lays("MA=0,99;SA@0-5{%4$j}>A;Yl=[j+4,1];", 3);
    Check.lays("MA=0,99;SA@0-5{%4$j}>A;Yl=[j+3,1];", 2);
    Check.lays("MA=0,99;SA@0-5{%4$j}>A;Yl=[1-#A,1];", 3);
    Check.lays("MA=0,99;SA@0-5{%4$j}>A;Yl=[0-#A,1];", 2);
    Check.lays("MA=0,99;SA@0-4{%4$j}>A;Yl=[0-#A,1];", 3);
    Check.lays("MA=0,99;SA@0-5{}>A;SB{%4$j}>A;Yl=[j+4,1];", 3);
    Check.lays("MA=0,99;SA@0-5{}>A;SB{%4$j}>A;Yl=[j+3,1];", 2);
  }

  private static void loaded() {
    Check.sentence("It is LOADED at its own address, or at the place of R2, raised as above");
    is(Check.laid("MA=0,99;SA@3{a}>A;"), 0, 3, 11, 3);
    is(Check.laid("MA=3,99;SA{a}>A;"), 0, 4, 10, 4);
    is(Check.laid("MA=3,99;SA{a}>A!;"), 0, 4, 10, -1);
    for (int origin = 200; origin <= 264; origin += 7) {
      is(Check.laid("MA=0,99;MB=" + origin + ",200;SA@5{b}>A^B;"), 0, 5, 7, origin);
      is(Check.laid("MA=0,99;MB=" + origin + ",200;SA@5{a}>A^B;"), 0, 5, 13, multiple(origin, 4));
      is(Check.laid("MA=0,99;MB=" + origin + ",200;SA@5{b%32}>A^B;"), 0, 5, 27,
          multiple(origin, 32));
      is(Check.laid("MA=0,99;MB=" + origin + ",200;SA@5{}>A^B;"), 0, 5, 0, origin);
    }
  }

  private static void originWithoutASectionBefore() {
    Check.sentence("THE PLACE OF A REGION is where the latest section before it ends, or its origin");
    LayoutDesk desk = Check.laid("MA=10,50;MB=100,50;MC=200,50;MD=300,50;SD{b}>D;SC{e}>C;SB{f}>B;"
        + "SA{g}>A;");
    is(desk, 3, 300, 7, 300);
    is(desk, 2, 200, 0, 200);
    is(desk, 1, 100, 0, 100);
    is(desk, 0, 10, 0, 10);
    // Sections that come later in the script do not count, though their letters come before.
    LayoutDesk letters = Check.laid("MA=0,99;SH{b}>A;SA{e}>A;");
    is(letters, 7, 0, 7, 0);
    is(letters, 0, 7, 0, 7);
  }

  private static void latestSectionBefore() {
    Check.sentence("where the latest section before it in the script ends");
    LayoutDesk desk = Check.laid("MA=0,99;SA@50{a}>A;SB@20{b}>A;SC{f}>A;SD@70{}>A!;SE{c}>A;");
    // The latest counts, not the one that ends last; an empty one and one not loaded count as well.
    is(desk, 2, 27, 0, 27);
    is(desk, 4, 72, 5, 72);
    LayoutDesk empty = Check.laid("MA=0,99;SA@30{b}>A;SB@9{}>A;SC{e}>A;");
    is(empty, 2, 9, 0, 9);
    LayoutDesk full = Check.laid("MA=0,99;SA{b}>A;SB{e}>A;SC{f}>A;SD{g}>A;SE{h}>A;SF{}>A;SG{}>A;"
        + "SH{c}>A;");
    is(full, 6, 7, 0, 7);
    is(full, 7, 8, 5, 8);
  }

  private static void runsOrIsLoadedThere() {
    Check.sentence("that runs or is loaded in that region (there)");
    LayoutDesk both = Check.laid("MA=0,99;MB=100,99;MC=200,99;SA{b}>B^A;SB{f}>A;SC{g}>B;SD{a}>A!;"
        + "SE{h}>C^A;");
    is(both, 0, 100, 7, 0);
    is(both, 1, 7, 0, 7);
    is(both, 2, 107, 0, 107);
    is(both, 3, 8, 10, -1);
    is(both, 4, 200, 0, 18);
    // One that is loaded elsewhere counts in both regions; one of another region does not.
    LayoutDesk apart = Check.laid("MA=0,99;MB=100,99;MC=200,99;SA{b}>A^B;SB{a}>C;SC{}>A;SD{}>B;"
        + "SE{}>C;");
    is(apart, 2, 7, 0, 7);
    is(apart, 3, 107, 0, 107);
    is(apart, 4, 210, 0, 210);
    LayoutDesk loads = Check.laid("MA=0,99;MB=101,99;SA@3{a%16}>A^B;SB{b}>B;");
    is(loads, 0, 3, 13, 112);
    is(loads, 1, 125, 7, 125);
  }

  private static void places() {
    Check.sentence("From its beginning on its items are gone over");
    LayoutDesk desk = Check.laid("MA=3,99;MB=301,99;SA{b%8a}>A;SB{c%32}>B^A;SC{}>B!;SD{e}>A;");
    // 3 is raised to 8; b ends at 15, 16 is a multiple of 8 and 4, a ends at 26.
    is(desk, 0, 8, 18, 8);
    // 301 is raised to 320; 325 is raised to 352; it is loaded behind A: 26 is raised to 32.
    is(desk, 1, 320, 32, 32);
    is(desk, 2, 352, 0, -1);
    is(desk, 3, 64, 0, 64);
  }

  private static void all() {
    Check.sentence("Of a section (A is 0)");
    StringBuilder script = new StringBuilder("MA=0,99;");
    for (char t = 'H'; t >= 'A'; t--) {
      script.append('S').append(t).append('@').append(10 * (t - 'A')).append("{}>A;");
    }
    LayoutDesk desk = Check.laid(script.toString());
    for (int t = 0; t < 8; t++) {
      is(desk, t, 10 * t, 0, 10 * t);
    }
    Check.noElement("section -1", () -> desk.section(-1, 0));
    Check.noElement("section 8", () -> desk.section(8, 0));
  }

  private static void refused() {
    LayoutDesk desk = Check.laid("MA=0,99;SB{b}>A;");
    Check.sentence("IllegalArgumentException: no such what");
    for (int what : new int[] {Integer.MIN_VALUE, -1, 3, Integer.MAX_VALUE}) {
      Check.badArgument("what " + what, () -> desk.section(1, what));
      Check.badArgument("what and t " + what, () -> desk.section(99, what));
    }
    Check.sentence("NoSuchElementException: there is no such section");
    for (int t : new int[] {Integer.MIN_VALUE, -1, 0, 2, 7, 8, Integer.MAX_VALUE}) {
      Check.noElement("section " + t, () -> desk.section(t, 0));
    }
    is(desk, 1, 0, 7, 0);
    desk.clear();
    Check.sentence("IllegalStateException: there is no layout");
    Check.badArgument("what before layout", () -> desk.section(1, 3));
    Check.badState("layout before section", () -> desk.section(99, 0));
  }
}
