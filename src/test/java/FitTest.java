/** Promise 5: overflow (3), overlap (4), copies that go over what is read (5), and their order. */
public final class FitTest {
  public static void main(String[] args) {
    overflow();
    overlap();
    clash();
    order();
    layAgain();
    Check.end();
  }

  private static void overflow() {
    Check.lays("MA=8,10;SA@8{a}>A;", 0);
    Check.lays("MA=8,10;SA@7{b}>A;", 3);
    Check.lays("MA=8,7;SA{b}>A;", 0);
    Check.lays("MA=8,6;SA{b}>A;", 3);
    Check.lays("MA=8,6;SA{b}>A!;", 3);
    Check.lays("MA=8,6;SA@14{}>A;", 0);
    Check.lays("MA=8,6;SA@15{}>A;", 3);
    Check.lays("MA=8,6;SA@7{}>A;", 3);
    Check.lays("MA=8,6;SA@0-1{}>A;", 3);
    Check.lays("MA=8,6;SA@0-1{}>A!;", 3);
    Check.lays("MA=1,6;SA{%8}>A;", 3);
    Check.lays("MA=1,7;SA{%8}>A;", 0);
    Check.lays("MA=0,9;SA@1{%8%16}>A;", 3);
    Check.lays("MA=0,99;MB=200,6;SA{b}>A^B;", 3);
    Check.lays("MA=0,99;MB=200,7;SA{b}>A^B;", 0);
    Check.lays("MA=0,99;MB=201,0;SA{%2}>A^B;", 3);
    Check.lays("MA=0,99;MB=200,9;SA{b}>A^B;SB{}>A^B;SC{%2}>A^B;SD{%16}>A^B;", 0);
    Check.lays("MA=0,99;MB=200,9;SA{b}>A^B;SB{}>A^B;SC{%2}>A^B;SD{%32}>A^B;", 3);
  }

  private static void overlap() {
    Check.lays("MA=0,99;SA@0{b}>A;SB@7{a}>A;", 0);
    Check.lays("MA=0,99;SA@0{b}>A;SB@6{a}>A;", 4);
    Check.lays("MA=0,99;SB@6{a}>A;SA@0{b}>A;", 4);
    Check.lays("MA=0,99;SB@5{a}>A;SA@5{b}>A!;", 4);
    Check.lays("MA=0,99;SA@0{d}>A;SB@5{}>A;SC@9{e}>A;", 0);
    Check.lays("MA=0,99;SB@5{}>A;SC@9{e}>A;SA@0{d}>A;", 0);
    Check.lays("MA=0,99;SA@1{%2}>A;SB@1{%2}>A;", 4);
    Check.lays("MA=0,99;SA@1{%2}>A;SB@0{b}>A;", 4);
    Check.lays("MA=0,99;SB@0{b}>A;SA@1{%2}>A;", 4);
    Check.lays("MA=0,99;MB=5,99;SA{b}>A;SB{a}>B;", 0);
    Check.lays("MA=0,99;MB=4,99;SA{b}>A;SB{a}>B;", 4);
    // Apart where they run, but one is loaded where the other is.
    Check.lays("MA=0,99;MB=200,99;MC=203,99;SA{b}>A^B;SB{a}>A^C;", 4);
    Check.lays("MA=0,99;MB=200,99;MC=207,99;SA{b}>A^B;SB{a}>A^C;", 0);
    Check.lays("MA=0,99;MB=50,50;SA@50{b}>A;SB@0{a}>A^B;", 4);
    // What is not loaded lies only where it runs.
    Check.lays("MA=0,99;MB=50,50;SA@50{b}>A!;SB@0{a}>A^B;", 0);
    // Where one runs and where another is loaded may meet, if no later copy reads it.
    Check.lays("MA=0,99;MB=200,99;MC=0,99;SA{b}>B^C;SB{a}>A^B;", 0);
  }

  private static void clash() {
    Check.lays("MA=0,99;MB=5,99;SA{b}>A^B;", 5);
    Check.lays("MA=5,99;MB=0,99;SA{b}>A^B;", 5);
    Check.lays("MA=0,99;MB=7,99;SA{b}>A^B;", 0);
    Check.lays("MA=0,99;MB=6,99;SA{b}>A^B;", 5);
    Check.lays("MA=0,99;MB=0,99;SA{b}>A^B;", 0);
    // The first copy writes where the second one reads; the other way round it is fine.
    Check.lays("MA=0,99;MB=100,99;MC=200,99;SA{b}>A^B;MD=0,99;SB{a}>C^D;", 5);
    Check.lays("MA=0,99;MB=100,99;MC=200,99;MD=0,99;SB{a}>C^D;SA{b}>A^B;", 0);
    // What lies at its place already is not copied and does not clash.
    Check.lays("MA=0,99;MB=0,99;MC=100,99;SA{b}>A^B;SB{a}>A^C;", 0);
    Check.lays("MA=0,99;MB=0,99;SA{}>A^B;SB@3{}>A^B;", 0);
  }

  private static void order() {
    Check.lays("MA=0,9;SA@5{b}>A;SB@5{a}>A;Yi=j;", 2);
    Check.lays("MA=0,9;SA@1{b}>A;SB@1{a}>A;", 3);
    Check.lays("MA=0,99;MB=5,99;SA{b}>A^B;SB@0{a}>A;", 4);
    Check.lays("MA=0,99;MB=5,99;SA{b}>A^B;SB@80{c}>A;", 5);
    Check.lays("MA=0,99;MB=5,99;SA{b}>A^B;SB@96{c}>A;", 3);
  }

  private static void layAgain() {
    LayoutDesk desk = Check.laid("MA=0,99;SA{a}>A;");
    Check.same("lay again", desk.lay(), 0);
    Check.same("section", desk.section(0, 1), 10);
    Check.type(desk, "SB@5{b}>A;");
    Check.same("overlap", desk.lay(), 4);
    Check.badState("no layout then", () -> desk.section(0, 1));
    Check.badState("no load then", desk::load);
    Check.badState("no start then", desk::start);
    Check.badState("no put then", () -> desk.put(0));
  }
}
