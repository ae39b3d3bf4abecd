/** Promise 5: overflow (3), overlap (4), copies that go over what is read (5), and their order. */
public final class FitTest {
  public static void main(String[] args) {
    overflowWhereItRuns();
    overflowWhereItIsLoaded();
    overflowOfEmptyOnes();
    overflowAtTheEndsOfMemory();
    overlapWhereTheyRun();
    overlapWhereTheyAreLoaded();
    overlapOfEmptyOnes();
    overlapOfRunAndLoad();
    clashWithItself();
    clashWithALaterOne();
    order();
    layAgain();
    Check.end();
  }

  /** A number that may be below 0, as an expression. */
  private static String number(int n) {
    return n < 0 ? "0-" + -n : "" + n;
  }

  private static void overflowWhereItRuns() {
    Check.sentence("a section begins below the origin of R or ends beyond origin plus length");
    for (int begin = -3; begin <= 22; begin++) {
      // b has 7 bytes, the region goes from 8 up to 18.
      int due = begin >= 8 && begin + 7 <= 18 ? 0 : 3;
      Check.lays("MA=8,10;SA@" + number(begin) + "{b}>A;", due);
      Check.lays("MA=8,10;SA@" + number(begin) + "{b}>A!;", due);
      Check.lays("MA=8,10;MB=100,99;SA@" + number(begin) + "{b}>A^B;", due);
    }
    for (int length = 0; length <= 20; length++) {
      Check.lays("MA=8," + length + ";SA{b}>A;", length >= 7 ? 0 : 3);
      Check.lays("MA=8," + length + ";SA{b}>A;SB{%16}>A;", length >= 8 ? 0 : 3);
      Check.lays("MA=8," + length + ";SA{b}>A;SB{a}>A;", length >= 18 ? 0 : 3);
    }
    Check.lays("MA=0,9;SA@1{%8}>A;", 0);
    Check.lays("MA=0,9;SA@1{%8%16}>A;", 3);
    Check.lays("MA=1,6;SA{%8}>A;", 3);
    Check.lays("MA=1,7;SA{%8}>A;", 0);
  }

  private static void overflowWhereItIsLoaded() {
    Check.sentence("likewise where it is loaded, in R2");
    for (int length = 0; length <= 20; length++) {
      Check.lays("MA=0,99;MB=200," + length + ";SA{b}>A^B;", length >= 7 ? 0 : 3);
      Check.lays("MA=0,99;MB=200," + length + ";SA{b}>A^B;SB{a}>A^B;", length >= 18 ? 0 : 3);
      Check.lays("MA=0,99;MB=201," + length + ";SA{%2}>A^B;", length >= 1 ? 0 : 3);
    }
    Check.lays("MA=0,99;MB=200,9;SA{b}>A^B;SB{}>A^B;SC{%2}>A^B;SD{%16}>A^B;", 0);
    Check.lays("MA=0,99;MB=200,9;SA{b}>A^B;SB{}>A^B;SC{%2}>A^B;SD{%32}>A^B;", 3);
    // What is loaded where it runs, or not at all, has no other region to fit in.
    Check.lays("MA=0,99;MB=200,0;SA{b}>A;SB{a}>A!;", 0);
  }

  private static void overflowOfEmptyOnes() {
    Check.sentence("a section (also an empty one) begins below the origin or ends beyond");
    for (int begin = -2; begin <= 20; begin++) {
      int due = begin >= 8 && begin <= 18 ? 0 : 3;
      Check.lays("MA=8,10;SA@" + number(begin) + "{}>A;", due);
      Check.lays("MA=8,10;SA@" + number(begin) + "{e}>A!;", due);
    }
    Check.lays("MA=8,0;SA{}>A;", 0);
    Check.lays("MA=8,0;SA{%8}>A;", 0);
    Check.lays("MA=8,0;SA{%16}>A;", 3);
    Check.lays("MA=0,99;MB=200,0;SA{}>A^B;", 0);
    Check.lays("MA=0,99;MB=201,0;SA{%2}>A^B;", 3);
  }

  private static void overflowAtTheEndsOfMemory() {
    Check.sentence("their sum is at most 512; ends beyond origin plus length");
    Check.lays("MA=0,512;SA@505{b}>A;", 0);
    Check.lays("MA=0,512;SA@506{b}>A;", 3);
    Check.lays("MA=0,512;SA@512{}>A;", 0);
    Check.lays("MA=0,512;SA@513{}>A;", 3);
    Check.lays("MA=512,0;SA{}>A;", 0);
    Check.lays("MA=512,0;SA@511{}>A;", 3);
    Check.lays("MA=0,512;SA@0{b}>A;", 0);
    Check.lays("MA=0,512;SA@0-1{}>A;", 3);
    Check.lays("MA=0,512;SA@0-1{b}>A;", 3);
    Check.lays("MA=0,512;SA@0-7{b}>A!;", 3);
    Check.lays("MA=0,99;MB=505,7;SA{b}>A^B;", 0);
    Check.lays("MA=0,99;MB=506,6;SA{b}>A^B;", 3);
  }

  private static void overlapWhereTheyRun() {
    Check.sentence("two sections have a byte of memory in common, where they run");
    for (int begin = 4; begin <= 36; begin += 4) {
      // b goes from 21 up to 28; a has 10 bytes.
      int due = begin < 28 && begin + 10 > 21 ? 4 : 0;
      String b = "SB@21{b}>A;";
      Check.lays("MA=0,99;SA@" + begin + "{a}>A;" + b, due);
      Check.lays("MA=0,99;" + b + "SA@" + begin + "{a}>A;", due);
      Check.lays("MA=0,99;" + b + "SA@" + begin + "{a}>A!;", due);
      Check.lays("MA=0,99;MB=200,99;" + b + "SA@" + begin + "{a}>A^B;", due);
    }
    Check.lays("MA=0,99;SA@0{b}>A;SB@6{%8}>A;", 4);
    Check.lays("MA=0,99;SA@0{b}>A;SB@7{%8}>A;", 0);
    Check.lays("MA=0,99;SB@1{%2}>A;SA@1{b}>A;", 4);
    Check.lays("MA=0,99;SB@1{%2}>A;SA@2{b}>A;", 0);
    Check.lays("MA=0,99;SA@1{%2}>A!;SB@1{%2}>A!;", 4);
    // In two regions that lie over one another, and the first with the last of three.
    Check.lays("MA=0,99;MB=7,99;SA{b}>A;SB@7{%8}>B;", 0);
    Check.lays("MA=0,99;MB=6,99;SA{b}>A;SB@6{%8}>B;", 4);
    Check.lays("MA=0,99;SA@0{b}>A;SB@20{a}>A;SC@6{%8}>A;", 4);
    Check.lays("MA=0,99;SA@0{b}>A;SB@20{a}>A;SC@28{c}>A;", 4);
    Check.lays("MA=0,99;SA@0{b}>A;SB@20{a}>A;SC@30{c}>A;", 0);
  }

  private static void overlapWhereTheyAreLoaded() {
    Check.sentence("or, of those that are loaded, where they are loaded");
    for (int origin = 180; origin <= 220; origin += 4) {
      // b is loaded from 201 up to 208, a from the origin on.
      int due = origin < 208 && origin + 10 > 201 ? 4 : 0;
      Check.lays("MA=0,99;MB=201,99;MC=" + origin + ",99;SA{b}>A^B;SB{a}>A^C;", due);
      Check.lays("MA=0,99;MB=201,99;MC=" + origin + ",99;SB{a}>A^C;SA{b}>A^B;", due);
      // One of them is loaded where it runs.
      Check.lays("MA=0,99;MB=201,99;MC=" + origin + ",99;SB{a}>C;SA{b}>A^B;", due);
      // What is not loaded lies only where it runs.
      Check.lays("MA=0,99;MB=201,99;MC=" + origin + ",99;SB{a}>C!;SA{b}>A^B;", 0);
    }
  }

  private static void overlapOfEmptyOnes() {
    Check.sentence("two sections with sizes above 0");
    for (int begin = 0; begin <= 40; begin += 5) {
      Check.lays("MA=0,99;SA@0{d}>A;SB@" + begin + "{}>A;", 0);
      Check.lays("MA=0,99;SB@" + begin + "{e}>A;SA@0{d}>A;", 0);
    }
    Check.lays("MA=0,99;SA@5{}>A;SB@5{}>A;SC@5{e}>A!;", 0);
    Check.lays("MA=0,99;MB=200,99;MC=203,99;SA{b}>A^B;SB{}>A^C;", 0);
    Check.lays("MA=0,99;SA@1{%2}>A;SB@0{b}>A;", 4);
    Check.lays("MA=0,99;SA@1{%1}>A;SB@0{b}>A;", 0);
  }

  private static void overlapOfRunAndLoad() {
    Check.sentence("where they run; or, of those that are loaded, where they are loaded");
    // Where one runs and where another is loaded may meet, if no later copy reads it.
    Check.lays("MA=0,99;MB=200,99;MC=0,99;SA{b}>B^C;SB{a}>A^B;", 0);
    Check.lays("MA=0,99;MB=200,99;SA@0{b}>A^B;SB@200{a}>B!;", 0);
  }

  private static void clashWithItself() {
    Check.sentence("the bytes to which a copy goes have one in common with those that it reads");
    for (int origin = 8; origin <= 32; origin++) {
      // b runs from 20 up to 27. At 20 it is loaded where it runs: there is no copy.
      int due = origin == 20 || origin + 7 <= 20 || origin >= 27 ? 0 : 5;
      Check.lays("MA=20,99;MB=" + origin + ",99;SA{b}>A^B;", due);
      Check.lays("MA=20,99;MB=" + origin + ",99;SA@20{b}>A^B;", due);
    }
    Check.lays("MA=0,99;MB=1,99;SA{e}>A^B;", 0);
    Check.lays("MA=1,99;MB=2,99;SA@1{%2}>A^B;", 0);
  }

  private static void clashWithALaterOne() {
    Check.sentence("or that a later copy reads");
    for (int origin = 8; origin <= 32; origin++) {
      // A runs from 19 up to 24; b, of 7 bytes, is loaded at the origin and runs elsewhere.
      int due = origin + 7 <= 19 || origin >= 24 ? 0 : 5;
      String regions = "MA=19,99;MB=400,99;MC=300,99;MD=" + origin + ",99;";
      Check.lays(regions + "SA@19{%8}>A^B;SB{b}>C^D;", due);
      Check.lays(regions + "SH@19{%8}>A^B;SA{b}>C^D;", due);
      Check.lays(regions + "SA@19{%8}>A^B;SC{a}>C^B;SB{b}>C^D;", due);
      // An earlier copy may have read what a later one goes over.
      Check.lays(regions + "SB{b}>C^D;SA@19{%8}>A^B;", 0);
    }
    // What lies at its place already is not copied and does not clash.
    Check.lays("MA=0,99;MB=0,99;MC=100,99;SA{b}>A^B;SB{a}>A^C;", 0);
    Check.lays("MA=0,99;MB=0,99;SA{}>A^B;SB@3{}>A^B;", 0);
    // A section that no copy brings may be gone over: no copy reads it.
    Check.lays("MA=0,99;MB=100,99;SB@100{a}>B!;SA@0{b}>A^B;", 0);
  }

  /** Each set of failures in one script: the one with the least number is told. */
  private static void order() {
    Check.sentence("Then 2, then 3, then 4, then 5");
    String[] failing = {"X", "Yz=y;", "SH@300{}>A;", "SF@50{a}>A;SG@50{c}>A;", "SE@0{b}>A^B;"};
    for (int set = 0; set < 32; set++) {
      StringBuilder rising = new StringBuilder("MA=0,99;MB=2,99;");
      StringBuilder falling = new StringBuilder("MA=0,99;MB=2,99;");
      int least = 0;
      for (int kind = 1; kind <= 5; kind++) {
        if ((set >> kind - 1 & 1) == 1) {
          least = least == 0 ? kind : least;
          rising.append(kind == 1 ? "" : failing[kind - 1]);
        }
        int other = 6 - kind;
        if ((set >> other - 1 & 1) == 1) {
          falling.append(failing[other - 1]);
        }
      }
      if ((set & 1) == 1) {
        Check.malformed(falling.toString(), falling.length() - 1);
        Check.malformed("X" + rising, 0);
      } else {
        Check.lays(rising.toString(), least);
        Check.lays(falling.toString(), least);
      }
    }
  }

  private static void layAgain() {
    Check.sentence("0, or how it fails (there is no layout then)");
    LayoutDesk desk = Check.laid("MA=0,99;SA{a}>A;");
    Check.same("lay again", desk.lay(), 0);
    Check.same("section", desk.section(0, 1), 10);
    String[] more = {"SB@5{b}>A;", "SC@99{f}>A;SD@100{}>A;", "Yi=j;", "X"};
    int[] due = {4, 3, 2, 1};
    for (int n = 0; n < more.length; n++) {
      Check.type(desk, more[n]);
      Check.same("lay with " + more[n], desk.lay(), due[n]);
      Check.noLayout("with " + more[n], desk);
      Check.same("lay again with " + more[n], desk.lay(), due[n]);
      Check.noLayout("again with " + more[n], desk);
    }
    Check.retype(desk, "MA=0,99;SA{a}>A;");
    Check.same("lay at last", desk.lay(), 0);
    Check.same("section at last", desk.section(0, 1), 10);
  }
}
