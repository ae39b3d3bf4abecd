/** Promises 10 and 11. */
public final class CopiesTest {
  public static void main(String[] args) {
    inOrderOfTheScript();
    eightSections();
    notCopied();
    refused();
    Check.end();
  }

  private static void is(LayoutDesk desk, int k, int from, int to, int size) {
    Check.same("from of " + k, desk.copy(k, 0), from);
    Check.same("to of " + k, desk.copy(k, 1), to);
    Check.same("size of " + k, desk.copy(k, 2), size);
  }

  private static void inOrderOfTheScript() {
    Check.sentence("one for each section that is loaded elsewhere than it runs, in order of the script");
    LayoutDesk desk = Check.laid(
        "MA=0,99;MB=100,99;MC=201,99;SD{b}>A^B;SA{}>A^B;SC{e%8a}>A;SB{c%4}>C^B;SH{d}>C!;");
    Check.same("copies", desk.copies(), 2);
    is(desk, 0, 100, 0, 7);
    is(desk, 1, 112, 208, 8);
    Check.same("copies again", desk.copies(), 2);
    LayoutDesk all = Check.laid("MA=0,99;MB=100,99;SH{%4}>A!;SG@1{%2}>A^B;SF@3{%4}>A^B;SE@5{%2}>A^B;"
        + "SD@7{%8}>A^B;SC@9{%2}>A^B;SB@11{%2}>A^B;SA@13{%2}>A^B;");
    Check.same("copies of seven", all.copies(), 7);
    is(all, 0, 100, 1, 1);
    is(all, 1, 104, 3, 1);
    is(all, 2, 106, 5, 1);
    is(all, 3, 112, 7, 1);
    is(all, 6, 118, 13, 1);
  }

  private static void eightSections() {
    StringBuilder script = new StringBuilder("MA=0,99;MB=100,99;");
    for (int k = 0; k < 8; k++) {
      script.append('S').append((char) ('H' - k)).append('@').append(2 * k + 1).append("{%2}>A^B;");
    }
    LayoutDesk desk = Check.laid(script.toString());
    Check.same("copies of eight", desk.copies(), 8);
    for (int k = 0; k < 8; k++) {
      is(desk, k, 100 + 2 * k, 2 * k + 1, 1);
    }
    desk.load();
    desk.start();
    Check.same("the last one's place", desk.memory(15), 0);
    Check.same("behind it", desk.memory(16), 170);
    Check.noElement("a ninth copy", () -> desk.copy(8, 0));
  }

  private static void notCopied() {
    Check.sentence("that is loaded elsewhere than it runs and has a size above 0");
    for (int origin = 95; origin <= 104; origin++) {
      // The address is raised to 96 or 104 where it is loaded; 0 bytes are never copied.
      LayoutDesk desk = Check.laid("MA=0,512;MB=" + origin + ",99;SA@96{%8}>A^B;SB@95{%8}>A^B;");
      Check.same("copies with one byte, loaded at " + origin, desk.copies(), 1);
      is(desk, 0, origin <= 96 ? 96 : 104, 95, 1);
      LayoutDesk here = Check.laid("MA=0,512;MB=" + origin + ",99;SA@100{}>A^B;");
      Check.same("no copies of none", here.copies(), 0);
    }
    for (int origin : new int[] {80, 100, 120}) {
      LayoutDesk desk = Check.laid("MA=0,512;MB=" + origin + ",99;SA@100{b}>A^B;");
      Check.same("copies from " + origin + " to 100", desk.copies(), origin == 100 ? 0 : 1);
    }
    Check.same("loaded where it runs", Check.laid("MA=0,99;SA{a}>A;").copies(), 0);
    Check.same("not loaded", Check.laid("MA=0,99;SA{a}>A!;").copies(), 0);
    Check.same("empty", Check.laid("MA=0,99;MB=100,99;SA{e}>A^B;").copies(), 0);
    Check.same("another region, the same place",
        Check.laid("MA=0,99;MB=0,50;SA{a}>A^B;").copies(), 0);
    Check.same("no section", Check.laid("MA=0,99;Yi=1;").copies(), 0);
  }

  private static void refused() {
    Check.sentence("Of copy k. As for section.");
    LayoutDesk desk = Check.laid("MA=0,99;MB=100,99;SA{b}>A^B;");
    for (int what : new int[] {Integer.MIN_VALUE, -1, 3, Integer.MAX_VALUE}) {
      Check.badArgument("what " + what, () -> desk.copy(0, what));
      Check.badArgument("what and k " + what, () -> desk.copy(9, what));
    }
    for (int k : new int[] {Integer.MIN_VALUE, -1, 1, 8, Integer.MAX_VALUE}) {
      Check.noElement("copy " + k, () -> desk.copy(k, 0));
    }
    is(desk, 0, 100, 0, 7);
    Check.same("copies still", desk.copies(), 1);
    desk.clear();
    Check.badState("copies without layout", desk::copies);
    Check.badArgument("what before layout", () -> desk.copy(0, 3));
    Check.badState("layout before copy", () -> desk.copy(9, 0));
    Check.same("lay of nothing", desk.lay(), 0);
    Check.noElement("copy of nothing", () -> desk.copy(0, 0));
  }
}
