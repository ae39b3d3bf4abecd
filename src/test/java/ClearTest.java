/** Promise 4. */
public final class ClearTest {
  public static void main(String[] args) {
    whatGoesAndWhatStays();
    emptyAndFull();
    behindEachAnswerOfLay();
    nothingIsLeftBehind();
    oneBehindTheOther();
    laidOftenAgain();
    Check.end();
  }

  private static void whatGoesAndWhatStays() {
    Check.sentence("An empty script, no layout");
    LayoutDesk desk = Check.laid("MA=0,64;SA{a$i}>A;");
    desk.load();
    desk.clear();
    Check.noLayout("after clear", desk);
    Check.same("memory stays", desk.memory(0), 1);
    Check.same("empty script", desk.lay(), 0);
    Check.noElement("no section any more", () -> desk.section(0, 0));
    Check.noElement("no symbol any more", () -> desk.symbol(8));
    Check.same("no input is put", desk.put(0), -1);
    Check.same("counted anew", desk.type('M', 1), 1);
    Check.retype(desk, "MA=0,64;SA{a}>A;");
    Check.same("told anew", desk.lay(), 0);
    Check.same("inputs stay", desk.section(0, 1), 10);
    Check.retype(desk, "M");
    Check.same("malformed", desk.lay(), 1);
    desk.clear();
    Check.same("lay of nothing", desk.lay(), 0);
    Check.same("bad of nothing", desk.bad(), -1);
  }

  private static void emptyAndFull() {
    LayoutDesk desk = new LayoutDesk();
    desk.clear();
    Check.noLayout("after clear of a new desk", desk);
    Check.same("counted of a new desk", desk.type('Y', 1), 1);
    desk.clear();
    desk.clear();
    Check.same("counted of one cleared twice", desk.type('Y', 1), 1);
    desk.clear();
    for (int length = 8; length <= 160; length += 8) {
      Check.same("filled", desk.type(Check.packed("XXXXXXXX"), 8), length);
    }
    Check.badState("full", () -> desk.type('X', 1));
    desk.clear();
    for (int length = 8; length <= 160; length += 8) {
      Check.same("filled anew", desk.type(Check.packed("XXXXXXXX"), 8), length);
    }
    Check.badState("full anew", () -> desk.type('X', 1));
    desk.clear();
    Check.same("lay of the empty one", desk.lay(), 0);
    Check.same("lay of the empty one again", desk.lay(), 0);
  }

  private static void behindEachAnswerOfLay() {
    String[] scripts = {"MA=0,99;SA{a}>A;", "X", "Yi=i;", "MA=0,9;SA{a}>A;",
        "MA=0,99;SA@0{a}>A;SB@0{b}>A;", "MA=0,99;MB=1,99;SA{b}>A^B;"};
    for (int answer = 0; answer < scripts.length; answer++) {
      LayoutDesk desk = Check.typed(scripts[answer]);
      Check.same("lay of " + scripts[answer], desk.lay(), answer);
      desk.clear();
      Check.noLayout("behind clear of " + scripts[answer], desk);
      Check.same("lay of nothing", desk.lay(), 0);
      Check.same("bad of nothing", desk.bad(), -1);
      Check.same("copies of nothing", desk.copies(), 0);
      Check.noElement("section of nothing", () -> desk.section(0, 0));
    }
  }

  /** Each letter is told anew in another way than before. */
  private static void nothingIsLeftBehind() {
    LayoutDesk desk = Check.laid("MA=0,99;MB=100,99;SA@40{b$i}>A!;SB@50{a}>A^B;Yj=9;Yk=#A;");
    Check.retype(desk, "MB=10,80;SB{b$j}>B;SA{$ka}>B;Yi=j;");
    Check.same("lay", desk.lay(), 0);
    Check.same("B", desk.section(1, 0), 10);
    Check.same("B's load", desk.section(1, 2), 10);
    Check.same("A", desk.section(0, 0), 20);
    Check.same("A's load", desk.section(0, 2), 20);
    Check.same("i", desk.symbol(8), 17);
    Check.same("j", desk.symbol(9), 17);
    Check.same("k", desk.symbol(10), 20);
    Check.same("copies", desk.copies(), 0);
    Check.retype(desk, "SA{}>A;");
    Check.same("region A is not told any more", desk.lay(), 1);
    Check.same("where", desk.bad(), 5);
    Check.retype(desk, "Yi=j;");
    Check.same("j is not told any more", desk.lay(), 2);
    Check.retype(desk, "Yi=/A;");
    Check.same("A is not told any more", desk.lay(), 2);
    Check.retype(desk, "Yi=|A;");
    Check.same("nor is where it is loaded", desk.lay(), 2);
    Check.retype(desk, "Yi=j;Yj=i;");
    Check.same("cyclic, though both had values", desk.lay(), 2);
  }

  /** A script that is laid out behind another one answers as on a desk of its own. */
  private static void oneBehindTheOther() {
    String[] scripts = {"", "MA=0,99;MB=200,99;SA{b}>A;", "MA=0,99;MB=200,99;SA{b}>A^B;",
        "MA=0,99;MB=200,99;SA{b}>A!;", "MA=0,99;MB=200,99;SA@9{b}>A;", "MB=0,99;MA=200,99;SA{ab}>B^A;",
        "MA=0,99;SA{%8$i}>A;SB{a$j}>A;Yk=#B;", "Yi=5;Yj=i;Yk=j-i;", "MA=0,99;SA@1{%8}>A;SB@9{}>A!;",
        "MA=0,99;MB=100,99;SB{b}>A^B;SA{a}>A^B;", "Yi=j;Yj=i;", "MA=0,9;SA{a}>A;", "MA=0,99;SA{a$i",
        "MA=0,99;SA@0{a}>A;SB@5{b$j}>A;", "MA=0,99;MB=1,99;SA{b}>A^B;"};
    for (String first : scripts) {
      for (String second : scripts) {
        LayoutDesk desk = Check.typed(first);
        desk.lay();
        Check.retype(desk, second);
        LayoutDesk alone = Check.typed(second);
        Check.same("lay of " + second + " behind " + first, desk.lay(), alone.lay());
        Check.same(second + " behind " + first, Answers.later(desk), Answers.later(alone));
      }
    }
  }

  private static void laidOftenAgain() {
    LayoutDesk desk = Check.typed("MA=0,99;SA{%1%1%1%1%1%1%1%1%1%1a%8$i}>A;Yj=i+1+1+1+1+1+1+1+1;");
    for (int n = 0; n < 200; n++) {
      Check.same("lay " + n, desk.lay(), 0);
      Check.same("size " + n, desk.section(0, 1), 16);
    }
    Check.same("j", desk.symbol(9), 24);
    LayoutDesk failing = Check.typed("Yi=1+(1+(1+(1+(1+j))));");
    for (int n = 0; n < 200; n++) {
      Check.same("failing lay " + n, failing.lay(), 2);
    }
    Check.type(failing, "Yj=1;");
    Check.same("lay at last", failing.lay(), 0);
    Check.same("i", failing.symbol(8), 6);
  }
}
