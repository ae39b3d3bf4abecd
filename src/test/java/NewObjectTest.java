/** Promise 1. */
public final class NewObjectTest {
  public static void main(String[] args) {
    Check.sentence("No script, no layout, memory 0");
    Check.memory("new", LayoutDesk::new, Check.bytes(0));
    noScript();
    Check.same("bad of a new desk", new LayoutDesk().bad(), -1);
    Check.noLayout("of a new desk", new LayoutDesk());
    nothingIsShared();
    newInputsAreEmpty();
    Check.end();
  }

  private static void noScript() {
    Check.same("first character", new LayoutDesk().type('Y', 1), 1);
    LayoutDesk desk = new LayoutDesk();
    Check.same("empty script", desk.lay(), 0);
    Check.same("its bad", desk.bad(), -1);
    Check.same("its copies", desk.copies(), 0);
    for (int n = 0; n < 8; n++) {
      int number = n;
      Check.noElement("its section " + n, () -> desk.section(number, 0));
      Check.same("its input " + n, desk.put(n), -1);
    }
    for (int v = 8; v <= 25; v++) {
      int number = v;
      Check.noElement("its symbol " + v, () -> desk.symbol(number));
    }
    LayoutDesk started = new LayoutDesk();
    started.lay();
    started.start();
    Check.same("memory behind start", started.memory(0), 0);
    started.load();
    Check.same("memory behind load", started.memory(0), 170);
    started.start();
    Check.same("memory behind both", started.memory(511), 170);
  }

  private static void nothingIsShared() {
    LayoutDesk other = new LayoutDesk();
    LayoutDesk used = Check.laid("MA=0,64;SA{a}>A;");
    used.load();
    Check.same("memory of another desk", other.memory(0), 0);
    Check.noLayout("of another desk", other);
    Check.same("script of another desk", other.type('Y', 1), 1);
    Check.same("memory of a later desk", new LayoutDesk().memory(0), 0);
    LayoutDesk late = new LayoutDesk();
    Check.type(late, "MA=0,0;SA{abcdefgh}>A;");
    Check.same("inputs of a later desk", late.lay(), 0);
    Check.same("the used one", used.section(0, 1), 10);
  }

  private static void newInputsAreEmpty() {
    LayoutDesk desk = new LayoutDesk();
    Check.type(desk, "MA=3,64;SA{abcdefgh}>A;");
    Check.same("all new inputs", desk.lay(), 0);
    Check.same("their section", desk.section(0, 0), 3);
    Check.same("its size", desk.section(0, 1), 0);
    for (int k = 0; k < 8; k++) {
      Check.same("new input " + k, desk.put(k), 3);
    }
  }
}
