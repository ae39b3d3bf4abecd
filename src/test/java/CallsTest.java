/** What it is: a desk answers as due up to its 512th call, whatever the calls before were. */
public final class CallsTest {
  private static final int CALLS = 512;

  public static void main(String[] args) {
    Check.sentence("An object is used for at most 512 calls after it has been made");
    sameCallAgainAndAgain();
    refusedAgainAndAgain();
    fullScriptAgainAndAgain();
    emptyAndFullInTurn();
    malformedAndFineInTurn();
    loadedAndStartedInTurn();
    Check.end();
  }

  private static void sameCallAgainAndAgain() {
    LayoutDesk cleared = new LayoutDesk();
    LayoutDesk laid = new LayoutDesk();
    LayoutDesk asked = new LayoutDesk();
    LayoutDesk told = new LayoutDesk();
    for (int call = 1; call < CALLS; call++) {
      cleared.clear();
      Check.same("lay " + call, laid.lay(), 0);
      Check.same("memory " + call, asked.memory(call - 1), 0);
      told.input(call % 8, call % 41, 1 << call % 5, call % 256);
    }
    Check.same("the 512th call, of clear", cleared.type('Y', 1), 1);
    Check.same("the 512th call, of lay", laid.copies(), 0);
    Check.same("the 512th call, of memory", asked.memory(511), 0);
    Check.same("the 512th call, of input", told.lay(), 0);
  }

  private static void refusedAgainAndAgain() {
    LayoutDesk desk = new LayoutDesk();
    for (int call = 1; call < CALLS; call++) {
      if (call % 2 == 0) {
        Check.badState("load " + call, desk::load);
      } else {
        Check.badArgument("type " + call, () -> desk.type(' ', 1));
      }
    }
    Check.same("the 512th call, behind refused ones", desk.type('Y', 1), 1);
  }

  /** As many items and terms as a script can have: rows that are not emptied would run over. */
  private static void fullScriptAgainAndAgain() {
    String items = "MA=0,99;SA{" + "%1".repeat(71) + "%64}>A;";
    String terms = "Yi=1" + "+1".repeat(77) + ";";
    Check.same("characters", items.length() + "+" + terms.length(), "160+159");
    fullScript(items, 8, 0);
    fullScript(terms, 8, 78);
  }

  private static void fullScript(String script, int v, int due) {
    LayoutDesk desk = new LayoutDesk();
    Check.type(desk, script);
    int calls = 20;
    while (calls < CALLS - 1) {
      Check.same("lay of a full script, call " + calls, desk.lay(), 0);
      calls++;
    }
    if (due == 0) {
      Check.same("the 512th call, of its section", desk.section(0, 1), 0);
    } else {
      Check.same("the 512th call, of its symbol", desk.symbol(v), due);
    }
  }

  private static void emptyAndFullInTurn() {
    String script = "Yi=1" + "+1".repeat(77) + ";";
    LayoutDesk desk = new LayoutDesk();
    int calls = 0;
    while (calls + 24 <= CALLS) {
      Check.type(desk, script);
      Check.same("lay of the full one", desk.lay(), 0);
      desk.clear();
      Check.same("lay of the empty one", desk.lay(), 0);
      Check.noElement("its symbol", () -> desk.symbol(8));
      calls += 24;
    }
    Check.same("calls", calls, 504);
    Check.same("typed", desk.type(Check.packed("Yi=1;"), 5), 5);
    Check.same("laid", desk.lay(), 0);
    Check.same("told", desk.symbol(8), 1);
  }

  private static void malformedAndFineInTurn() {
    LayoutDesk desk = new LayoutDesk();
    for (int calls = 0; calls + 8 <= CALLS; calls += 8) {
      desk.type(Check.packed("Yi=1"), 4);
      Check.same("malformed", desk.lay(), 1);
      Check.same("where", desk.bad(), 4);
      Check.same("more", desk.type(';', 1), 5);
      Check.same("fine", desk.lay(), 0);
      Check.same("nowhere", desk.bad(), -1);
      Check.same("symbol", desk.symbol(8), 1);
      desk.clear();
    }
  }

  private static void loadedAndStartedInTurn() {
    LayoutDesk desk = Check.laid("MA=0,99;MB=200,99;SA{b}>A^B;");
    int calls = 9;
    while (calls + 4 <= CALLS) {
      desk.load();
      Check.same("loaded, call " + calls, desk.memory(6), 170);
      desk.start();
      Check.same("started, call " + calls, desk.memory(6), 106);
      calls += 4;
    }
  }
}
