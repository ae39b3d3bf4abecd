/** Promise 14. */
public final class MemoryTest {
  public static void main(String[] args) {
    Check.sentence("A byte of memory. IndexOutOfBoundsException: it is not 0 .. 511");
    LayoutDesk desk = Check.laid("MA=0,512;SA{a}>A;");
    Check.same("first of a new desk", new LayoutDesk().memory(0), 0);
    Check.same("last of a new desk", new LayoutDesk().memory(511), 0);
    for (int a : new int[] {Integer.MIN_VALUE, -1, 512, 513, Integer.MAX_VALUE}) {
      Check.raises("memory " + a, IndexOutOfBoundsException.class, () -> desk.memory(a));
    }
    desk.load();
    for (int a : new int[] {-1, 512}) {
      Check.raises("memory " + a, IndexOutOfBoundsException.class, () -> desk.memory(a));
    }
    Check.same("first", desk.memory(0), 1);
    Check.same("last, untouched", desk.memory(511), 170);
    Check.same("untouched", desk.memory(10), 170);
    // 472 is raised to 480, and d ends at 520.
    Check.retype(desk, "MA=0,512;SB@472{d}>A;");
    Check.same("beyond the end", desk.lay(), 3);
    Check.same("without a layout", desk.memory(0), 1);
    Check.retype(desk, "MA=0,512;SB@464{d%64}>A;");
    Check.same("up to the end", desk.lay(), 0);
    desk.load();
    Check.same("first now", desk.memory(0), 170);
    Check.same("d", desk.memory(464), 7);
    Check.same("d's end", desk.memory(503), 46);
    Check.same("last", desk.memory(511), 0);
    Check.end();
  }
}
