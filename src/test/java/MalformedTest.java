/** Promises 5 and 6: a script that is malformed, and where. */
public final class MalformedTest {
  public static void main(String[] args) {
    statements();
    regions();
    sections();
    items();
    symbols();
    expressions();
    everyPrefix();
    badIsOfTheLatest();
    badAtBothEnds();
    Check.end();
  }

  private static void statements() {
    Check.sentence("A SCRIPT is a text of STATEMENTS, each with ; behind it");
    Check.malformed("m", 0);
    Check.malformed(";", 0);
    Check.malformed("Yi=1;;", 5);
    Check.malformed("Yi=1;A", 5);
    for (String cut : new String[] {"M", "MA", "MA=", "MA=1", "MA=1,", "S", "SA", "SA@", "SA@1", "SA{",
        "SA{}", "SA{}>", "SA{%", "SA{$", "Y", "Yi", "Yi=", "Yi=1+", "Yi=/", "Yi=(1", "Yi=[1", "Yi=[1,"}) {
      Check.malformed(cut + ";", cut.length());
    }
    Check.malformed("Yi=1Yj", 4);
    Check.lays("Yi=1;", 0);
  }

  private static void regions() {
    Check.sentence("M R = number , number: their sum is at most 512");
    Check.malformed("Ma", 1);
    Check.malformed("M=", 1);
    Check.malformed("ME=0,1;", 1);
    Check.malformed("MA0", 2);
    Check.malformed("MA=,", 3);
    Check.malformed("MA=-1", 3);
    Check.malformed("MA=(1)", 3);
    Check.malformed("MA=1;", 4);
    Check.malformed("MA=1,;", 5);
    Check.malformed("MA=1,1+1;", 6);
    Check.malformed("MA=0,513;", 8);
    Check.malformed("MA=513,0;", 8);
    Check.malformed("MA=513;", 6);
    Check.malformed("MA=9999,9999x", 12);
    Check.malformed("MA=0,00001;", 9);
    Check.malformed("MA=0,9;MA=0,9;", 8);
    Check.lays("MA=512,0;MB=0512,0000;MC=0,512;MD=511,1;", 0);
  }

  private static void sections() {
    Check.sentence("S T: perhaps @ and an expression, then { ITEMS } > R, then perhaps ^ R or !");
    Check.malformed("MA=0,9;SI", 8);
    Check.malformed("MA=0,9;Sa", 8);
    Check.malformed("MA=0,9;SA(", 9);
    Check.malformed("MA=0,9;SA{>", 10);
    Check.malformed("MA=0,9;SA{}A", 11);
    Check.malformed("MA=0,9;SA{}>B;", 12);
    Check.malformed("MA=0,9;SA{}>E;", 12);
    Check.malformed("SA{}>A;MA=0,9;", 5);
    Check.malformed("MA=0,9;SA{}>A^;", 14);
    Check.malformed("MA=0,9;SA{}>A^A;", 14);
    Check.malformed("MA=0,9;SA{}>A^B;MB=0,9;", 14);
    Check.malformed("MA=0,9;SA{}>A^a;", 14);
    Check.malformed("MA=0,9;SA{}>A!!;", 14);
    Check.malformed("MA=0,9;MB=0,9;SA{}>A^B!;", 22);
    Check.malformed("MA=0,9;MB=0,9;SA{}>A!^B;", 21);
    Check.malformed("MA=0,9;SA{}>A,", 13);
    Check.malformed("MA=0,9;SA{}>A;SA{}>A;", 15);
    Check.malformed("MA=0,9;SA@;", 10);
    Check.malformed("MA=0,9;SA@1>", 11);
    Check.malformed("MA=0,9;SA@1@", 11);
    Check.lays("MA=0,9;MB=0,9;SA@1{}>A^B;SH{}>B!;", 0);
  }

  private static void items() {
    Check.sentence("a .. h, an input; % number, an alignment (a power of 2 up to 64); $ v");
    Check.malformed("MA=0,99;SA{i}", 11);
    Check.malformed("MA=0,99;SA{A}", 11);
    Check.malformed("MA=0,99;SA{a,b}", 12);
    Check.malformed("MA=0,99;SA{aba}>A;", 13);
    Check.malformed("MA=0,99;SA{a}>A;SB{ba}>A;", 20);
    Check.malformed("MA=0,99;SA{%}", 12);
    Check.malformed("MA=0,99;SA{%0}", 13);
    Check.malformed("MA=0,99;SA{%3}", 13);
    Check.malformed("MA=0,99;SA{%6a}", 13);
    Check.malformed("MA=0,99;SA{%65}", 14);
    Check.malformed("MA=0,99;SA{%128}", 15);
    Check.malformed("MA=0,99;SA{%00001}", 16);
    Check.malformed("MA=0,99;SA{$h}", 12);
    Check.malformed("MA=0,99;SA{$}", 12);
    Check.malformed("MA=0,99;SA{$i$i}", 14);
    Check.malformed("MA=0,99;Yi=1;SA{$i}", 17);
    Check.malformed("MA=0,99;SA{$z}>A;Yz=1;", 18);
    Check.lays("MA=0,99;SA{%1%2%4%8%16%32%64%0064$i$z}>A;SB{ahb}>A;", 0);
  }

  private static void symbols() {
    Check.sentence("Y v = expression: symbol v (i .. z)");
    Check.malformed("Yh=1;", 1);
    Check.malformed("Y{=1;", 1);
    Check.malformed("YA=1;", 1);
    Check.malformed("Yi1;", 2);
    Check.malformed("Yi=1;Yj=1;Yi=1;", 11);
    Check.malformed("Yi=1}", 4);
    Check.lays("Yi=1;Yz=1;", 0);
  }

  private static void expressions() {
    Check.sentence("An EXPRESSION: TERMS with + or - between");
    Check.malformed("Yi=-1;", 3);
    Check.malformed("Yi=+1;", 3);
    Check.malformed("Yi=1+-1;", 5);
    Check.malformed("Yi=1--1;", 5);
    Check.malformed("Yi=1*2;", 4);
    Check.malformed("Yi=a;", 3);
    Check.malformed("Yi=A;", 3);
    Check.malformed("Yi=12j;", 5);
    Check.malformed("Yi=jk;", 4);
    Check.malformed("Yi=12345;", 7);
    Check.malformed("Yi=/;", 4);
    Check.malformed("Yi=/a;", 4);
    Check.malformed("Yi=|I;", 4);
    Check.malformed("Yi=#1;", 4);
    Check.malformed("Yi=/AB;", 5);
    Check.malformed("Yi=();", 4);
    Check.malformed("Yi=(1];", 5);
    Check.malformed("Yi=1);", 4);
    Check.malformed("Yi=[];", 4);
    Check.malformed("Yi=[1];", 5);
    Check.malformed("Yi=[1,];", 6);
    Check.malformed("Yi=[1,j];", 6);
    Check.malformed("Yi=[1,0];", 7);
    Check.malformed("Yi=[1,12];", 8);
    Check.malformed("Yi=[1,65];", 8);
    Check.malformed("Yi=[1,128];", 9);
    Check.malformed("Yi=[1,4);", 7);
    Check.malformed("Yi=(1,4);", 5);
    Check.malformed("Yi=((((([1,4]))))));", 8);
    Check.malformed("Yi=[[[[[(1),1],1],1],1],1];", 8);
    Check.malformed("Yi=([([([1,1])])]);", 8);
    Check.lays("Yi=[([([1,1]),1]),64];", 0);
    Check.lays("Yi=(((((1)))))+(((((1)))))+[[[[[1,1],1],1],1],1];", 0);
    Check.malformed("MA=0,9;SA@((((((1", 15);
  }

  /** A script that is cut off is malformed where it ends, but for cuts between statements. */
  private static void everyPrefix() {
    Check.sentence("or where the script ends");
    String script = "MA=0,128;MB=256,64;SA@[5+(2-1),4]{a%8b$i}>A;SB{c}>B^A;SC{}>B!;Yj=i-/A+|B+#B;";
    for (int n = 1; n <= script.length(); n++) {
      String prefix = script.substring(0, n);
      if (!prefix.endsWith(";")) {
        Check.malformed(prefix, n);
      } else {
        Check.lays(prefix, 0);
      }
    }
  }

  private static void badAtBothEnds() {
    Check.sentence("the place of the first character that can't stand there, or where the script ends");
    Check.malformed("X" + "Y".repeat(159), 0);
    Check.malformed("!", 0);
    Check.malformed("Yi=1" + "+1".repeat(78), 160);
    Check.malformed("Yi=1" + "+1".repeat(77) + ";!", 159);
    Check.malformed("Yi=1" + "+1".repeat(77) + ";Y", 160);
    Check.malformed("Yi=1" + "+1".repeat(77) + ",;", 158);
    Check.malformed("MA=0,99;SA{" + "%1".repeat(74), 159);
    Check.malformed("MA=0,99;SA{" + "%1".repeat(74) + "a", 160);
    Check.malformed("MA=0,99;SA{" + "%1".repeat(74) + "i", 159);
  }

  private static void badIsOfTheLatest() {
    Check.sentence("Where the latest script was malformed; -1 when it was not");
    LayoutDesk desk = Check.typed("Yi=1;X");
    Check.same("before lay", desk.bad(), -1);
    Check.same("malformed", desk.lay(), 1);
    Check.same("where", desk.bad(), 5);
    Check.same("still", desk.bad(), 5);
    Check.same("malformed again", desk.lay(), 1);
    Check.same("where again", desk.bad(), 5);
    Check.retype(desk, "Yi=j;");
    Check.same("unknown", desk.lay(), 2);
    Check.same("not malformed", desk.bad(), -1);
    Check.retype(desk, "Yi=j;Yi");
    Check.same("malformed goes before unknown", desk.lay(), 1);
    Check.same("where last", desk.bad(), 6);
    Check.retype(desk, "Yi=1;");
    Check.same("laid", desk.lay(), 0);
    Check.same("fine", desk.bad(), -1);
    for (String script : new String[] {"MA=0,9;SA{a}>A;", "MA=0,99;SA@0{a}>A;SB@0{b}>A;",
        "MA=0,99;MB=1,99;SA{b}>A^B;", ""}) {
      Check.retype(desk, "YY");
      Check.same("malformed before " + script, desk.lay(), 1);
      Check.same("where before " + script, desk.bad(), 1);
      Check.retype(desk, script);
      Check.same("malformed " + script, desk.lay() == 1, false);
      Check.same("nowhere in " + script, desk.bad(), -1);
    }
    staysUntilItIsLaidOutAgain();
  }

  /** The document leaves this open; the program takes the script that was laid out as the latest. */
  private static void staysUntilItIsLaidOutAgain() {
    LayoutDesk desk = Check.typed("Yi=1;X");
    Check.same("malformed", desk.lay(), 1);
    desk.type(';', 1);
    Check.same("where, with more typed", desk.bad(), 5);
    desk.input(0, 1, 1, 1);
    Check.same("where, with an input told", desk.bad(), 5);
    desk.clear();
    Check.same("where, cleared", desk.bad(), 5);
  }
}
