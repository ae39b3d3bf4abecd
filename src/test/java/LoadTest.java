/** Promise 12. */
public final class LoadTest {
  public static void main(String[] args) {
    LayoutDesk desk = new LayoutDesk();
    desk.input(0, 3, 4, 254);
    desk.input(1, 2, 1, 9);
    desk.input(2, 4, 2, 50);
    desk.input(3, 2, 1, 77);
    // A from 5 on: a at 8, b at 11, then up to 16; it is loaded at 208. C is not loaded.
    Check.type(desk, "MA=0,99;MB=201,99;SA@5{ab%8}>A^B;SB{c}>A;SC{d}>A!;");
    Check.same("lay", desk.lay(), 0);
    desk.load();
    int[] due = new int[512];
    java.util.Arrays.fill(due, 170);
    int[] a = {0, 0, 0, 254, 255, 0, 9, 10, 0, 0, 0};
    System.arraycopy(a, 0, due, 208, a.length);
    int[] b = {50, 51, 52, 53};
    System.arraycopy(b, 0, due, 16, b.length);
    areDue(desk, due, "loaded");
    desk.start();
    desk.load();
    areDue(desk, due, "loaded again");

    desk.input(0, 3, 4, 0);
    Check.badState("no layout", desk::load);
    areDue(desk, due, "refused");
    Check.retype(desk, "MA=0,512;SA{c}>A;SB@508{%256}>A;");
    Check.same("malformed", desk.lay(), 1);
    areDue(desk, due, "laid");
    Check.retype(desk, "MA=0,512;SA@507{c}>A;");
    Check.same("at the end", desk.lay(), 0);
    desk.load();
    java.util.Arrays.fill(due, 170);
    System.arraycopy(new int[] {0, 50, 51, 52, 53}, 0, due, 507, 5);
    areDue(desk, due, "loaded at the end");
    Check.end();
  }

  private static void areDue(LayoutDesk desk, int[] due, String when) {
    for (int i = 0; i < 512; i++) {
      Check.same(when + " memory " + i, desk.memory(i), due[i]);
    }
  }
}
