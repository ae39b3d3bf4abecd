/** Promises 5 and 6: what is told again is malformed, at its letter; what is told once is not. */
public final class RetoldTest {
  private static final String REGIONS = "MA=0,512;MB=0,512;";

  public static void main(String[] args) {
    regions();
    sections();
    symbols();
    inputs();
    lettersOfOtherKinds();
    Check.end();
  }

  private static void toldAgain(String before, char letter) {
    Check.malformed(before + letter, before.length());
    Check.malformed(before + letter + "=1;", before.length());
  }

  private static void regions() {
    Check.sentence("No region is told twice: malformed at its letter");
    String all = "MA=0,1;MB=1,1;MC=2,1;MD=3,1;";
    Check.lays(all, 0);
    for (char r = 'A'; r <= 'D'; r++) {
      toldAgain("M" + r + "=0,1;M", r);
      toldAgain("M" + r + "=0,0;Yi=1;M", r);
      toldAgain(all + "M", r);
    }
  }

  private static void sections() {
    Check.sentence("No section is told twice: malformed at its letter");
    StringBuilder all = new StringBuilder(REGIONS);
    for (char t = 'A'; t <= 'H'; t++) {
      toldAgain(REGIONS + "S" + t + "{}>A;S", t);
      toldAgain(REGIONS + "S" + t + "@5{a}>A^B;Yi=1;S", t);
      toldAgain(REGIONS + "S" + t + "{}>A!;MC=0,0;S", t);
      all.append('S').append(t).append("{}>A;");
    }
    Check.lays(all.toString(), 0);
    for (char t = 'A'; t <= 'H'; t++) {
      toldAgain(all + "S", t);
    }
  }

  private static void symbols() {
    Check.sentence("No symbol is told twice, by Y or by $: malformed at its letter");
    StringBuilder all = new StringBuilder();
    StringBuilder items = new StringBuilder(REGIONS + "SA{");
    for (char v = 'i'; v <= 'z'; v++) {
      toldAgain("Y" + v + "=1;Y", v);
      toldAgain("Y" + v + "=1;SA{$", v);
      toldAgain("SA{$" + v + "$", v);
      toldAgain("SA{$" + v + "a%4$", v);
      toldAgain(REGIONS + "SA{$" + v + "}>A;Y", v);
      toldAgain(REGIONS + "SA{$" + v + "}>A;SB{$", v);
      all.append('Y').append(v).append("=1;");
      items.append('$').append(v);
    }
    Check.lays(all.toString(), 0);
    Check.lays(items + "}>A;", 0);
    for (char v = 'i'; v <= 'z'; v++) {
      toldAgain(all + "Y", v);
      toldAgain(all + "SA{$", v);
      toldAgain(items + "$", v);
      toldAgain(items + "}>A;Y", v);
    }
  }

  private static void inputs() {
    Check.sentence("each input stands in one section at most, once: malformed at its letter");
    for (char k = 'a'; k <= 'h'; k++) {
      toldAgain("SA{" + k, k);
      toldAgain("SA{" + k + "%2$i", k);
      toldAgain(REGIONS + "SA{" + k + "}>A;SB{", k);
      toldAgain(REGIONS + "SA{" + k + "}>A!;SB{}>B;SC@9{%4", k);
      toldAgain("SA{abcdefgh", k);
      toldAgain(REGIONS + "SA{abcd}>A;SB{efgh}>B!;SC{", k);
      Check.lays(REGIONS + "SA{" + k + "}>A;SB{}>A;", 0);
    }
    Check.lays(REGIONS + "SA{abcdefgh}>A;", 0);
    Check.lays(REGIONS + "SA{hgfe}>A;SB{dcba}>A;", 0);
  }

  /** A region and a section may bear one letter, and a script that was cleared tells nothing. */
  private static void lettersOfOtherKinds() {
    Check.sentence("");
    Check.lays("MA=0,9;SA{}>A;MB=0,9;SB{}>B;MC=0,9;SC{}>C;MD=0,9;SD{}>D;", 0);
    LayoutDesk desk = Check.laid("MA=0,99;SA{a$i}>A;Yj=1;");
    Check.retype(desk, "MA=0,99;SA{a$j}>A;Yi=1;");
    Check.same("told anew behind clear", desk.lay(), 0);
    Check.same("and laid out again", desk.lay(), 0);
  }
}
