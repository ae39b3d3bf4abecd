/** Promise 5: what can't be reckoned (2), and the term CYCLIC. */
public final class UnknownTest {
  /** 99990: what the greatest numbers give that fit into few characters. */
  private static final String NINES = "9999+9999+9999+9999+9999+9999+9999+9999+9999+9999";
  private static final String REGIONS = "MA=0,99;MB=200,99;";

  public static void main(String[] args) {
    symbolNotTold();
    sectionNotTold();
    cyclicSymbols();
    cyclicSections();
    cyclicByPlacesOfRegions();
    neededTwiceIsNotCyclic();
    raisedFromBelowZero();
    rangeOfPlus();
    rangeOfMinus();
    rangeOfRaise();
    onlyWhatIsReckonedHasARange();
    allAreReckoned();
    anyOrder();
    Check.end();
  }

  private static void symbolNotTold() {
    Check.sentence("a symbol of which an expression speaks is not told at all");
    for (char v = 'j'; v <= 'z'; v++) {
      Check.lays("Yi=" + v + ";", 2);
      Check.lays("Yi=" + v + ";Y" + v + "=1;", 0);
      Check.lays("MA=0,9;Yi=" + v + ";SA{$" + v + "}>A;", 0);
      Check.lays("MA=0,9;SA@" + v + "{}>A;", 2);
      Check.lays("MA=0,9;SA@" + v + "{}>A;Y" + v + "=1;", 0);
    }
    for (String of : new String[] {"j+1", "1+j", "1-j", "(j)", "[j,1]", "1+(2-[j,4])", "j-j", "1+2-j"}) {
      Check.lays("Yi=" + of + ";", 2);
      Check.lays("Yj=1;Yi=" + of + ";", 0);
      Check.lays("MA=0,9;SA@" + of + "{}>A;", 2);
    }
  }

  private static void sectionNotTold() {
    Check.sentence("a section of which an expression speaks is not told at all");
    for (char t = 'A'; t <= 'H'; t++) {
      for (String of : new String[] {"/" + t, "|" + t, "#" + t, "1+#" + t, "[/" + t + ",4]"}) {
        Check.lays("Yi=" + of + ";", 2);
        Check.lays("MA=0,9;MB=0,9;MC=0,9;MD=0,9;Yi=" + of + ";", 2);
        Check.lays("MA=0,9;Yi=" + of + ";S" + t + "{}>A;", 0);
        char other = t == 'A' ? 'B' : 'A';
        Check.lays("MA=0,9;S" + other + "@" + of + "{}>A;", 2);
        Check.lays("MA=0,9;S" + other + "@" + of + "{}>A;S" + t + "@1{}>A;", 0);
      }
    }
  }

  private static void cyclicSymbols() {
    Check.sentence("when a symbol would need itself, it is CYCLIC");
    Check.lays("Yi=i;", 2);
    Check.lays("Yi=i-i;", 2);
    Check.lays("Yi=[(1+i),4];", 2);
    for (int length = 1; length <= 18; length++) {
      StringBuilder chain = new StringBuilder();
      for (int n = 0; n < length - 1; n++) {
        chain.append('Y').append((char) ('i' + n)).append('=').append((char) ('j' + n)).append(';');
      }
      char last = (char) ('i' + length - 1);
      Check.lays(chain + "Y" + last + "=i;", 2);
      Check.lays(chain + "Y" + last + "=" + last + ";", 2);
      Check.lays(chain + "Y" + last + "=7;", 0);
    }
    Check.lays("Yi=j-j;Yj=j;", 2);
    Check.lays("Yi=1;Yj=k+i;Yk=j-i;", 2);
  }

  private static void cyclicSections() {
    Check.sentence("when a section would need itself, it is CYCLIC");
    for (String of : new String[] {"/A", "|A", "#A", "/A-/A", "1+(#A)"}) {
      for (String end : new String[] {"{a}>A;", "{}>A;", "{a}>A!;", "{a}>A^B;"}) {
        Check.lays(REGIONS + "SA@" + of + end, 2);
        Check.lays(REGIONS + "SA@i" + end + "Yi=" + of + ";", 2);
        Check.lays(REGIONS + "SA@/B" + end + "SB@" + of + "{}>A;", 2);
        Check.lays(REGIONS + "Yj=" + of + ";SA@9" + end, 0);
      }
    }
    Check.lays("MA=0,99;SA@i{$i}>A;", 2);
    Check.lays("MA=0,99;SA@i{$i}>A!;", 2);
    Check.lays("MA=0,99;SA@j{$i}>A;Yj=i;", 2);
    Check.lays("MA=0,99;SA@i{$j}>A;SB@j{$i}>A;", 2);
    Check.lays("MA=0,99;SA@9{$j}>A;SB@j{$i}>A;", 0);
  }

  private static void cyclicByPlacesOfRegions() {
    Check.sentence("What is needed (regions' places by the sections before, expressions)");
    for (String of : new String[] {"/B", "|B", "#B"}) {
      Check.lays("MA=0,99;SA@" + of + "{}>A;SB{b}>A;", 2);
      Check.lays("MA=0,99;SA@" + of + "{}>A;SB@9{b}>A;", 0);
      Check.lays("MA=0,99;SA@" + of + "{}>A;SC@9{}>A;SB{b}>A;", 0);
      Check.lays("MA=0,99;SB{b}>A;SA@" + of + "{}>A;", 0);
    }
    Check.lays("MA=0,99;SA@i{a}>A;Yi=#B;SB{b}>A;", 2);
    Check.lays("MA=0,99;SA@/C{}>A;SB{}>A;SC{}>A;", 2);
    Check.lays("MA=0,99;SA@i{}>A;SB{$i}>A;", 2);
    // B needs the place of A's region where it runs, or where it is loaded.
    Check.lays("MA=0,99;MB=200,99;SA@/B-200{a}>A;SB{b}>B;", 0);
    Check.lays("MA=0,99;MB=200,99;SA@/B-200{a}>A^B;SB{b}>B;", 2);
    Check.lays("MA=0,99;MB=200,99;SA@/B-200{a}>A;SB@200{b}>B^A;", 2);
    Check.lays("MA=0,99;MB=200,99;MC=300,99;SA@/B-200{a}>A;SB@200{b}>B^C;", 0);
    // What is loaded needs its place, though its address is told.
    Check.lays("MA=0,99;MB=200,99;SA@#B{a}>A;SB@200{b}>B^A;", 2);
  }

  private static void neededTwiceIsNotCyclic() {
    Check.sentence("when a section or symbol would need itself, and no other");
    LayoutDesk desk = Check.laid("Yi=j+k+j;Yj=k+l;Yk=l+l;Yl=1;");
    Check.same("i", desk.symbol(8), 8);
    LayoutDesk sections = Check.laid("MA=0,99;SA@i{b$j}>A;SB@j+/C-|C{}>A;SC@k{}>A;Yi=k+#C;Yk=5;");
    Check.same("A", sections.section(0, 0), 5);
    Check.same("B", sections.section(1, 0), 12);
  }

  private static void raisedFromBelowZero() {
    Check.sentence("or [ ] is of a number below 0");
    for (int n = 1; n <= 64; n *= 2) {
      Check.lays("Yi=[0," + n + "];", 0);
      Check.lays("Yi=[1-1," + n + "];", 0);
      Check.lays("Yi=[1-2," + n + "];", 2);
      Check.lays("Yi=[0-" + n + "," + n + "];", 2);
      Check.lays("Yi=[0-9999," + n + "]+1;", 2);
      Check.lays("Yi=0-[9999," + n + "];", 0);
    }
    Check.lays("MA=0,9;SA{}>A!;Yi=[|A,1];", 2);
    Check.lays("MA=0,9;SA{}>A!;Yi=[|A+1,1];", 0);
    Check.lays("MA=0,9;SA@[0-1,4]{}>A;", 2);
  }

  private static void rangeOfPlus() {
    Check.sentence("or what a + gives is not from -100000 to 100000");
    Check.lays("Yi=" + NINES + "+10;", 0);
    Check.lays("Yi=" + NINES + "+11;", 2);
    Check.lays("Yi=" + NINES + "+9999;", 2);
    Check.lays("Yi=" + NINES + "+11-20;", 2);
    Check.lays("Yi=" + NINES + "-20+11;", 0);
    Check.lays("Yi=" + NINES + "+10;Yj=i+0;", 0);
    Check.lays("Yi=" + NINES + "+10;Yj=i+1;", 2);
    Check.lays("Yi=" + NINES + "+10;Yj=0-i;Yk=j+(0-1);", 2);
    Check.lays("Yi=" + NINES + "+10;Yj=0-i;Yk=j+(0-0);", 0);
    Check.lays("Yi=" + NINES + "+10;Yj=1+i-1;", 2);
    Check.lays("Yi=" + NINES + "+10;Yj=i+i;", 2);
    LayoutDesk desk = Check.laid("Yi=" + NINES + "+10;");
    Check.same("the greatest", desk.symbol(8), 100000);
  }

  private static void rangeOfMinus() {
    Check.sentence("or what a - gives is not from -100000 to 100000");
    Check.lays("Yi=0-(" + NINES + ")-10;", 0);
    Check.lays("Yi=0-(" + NINES + ")-11;", 2);
    Check.lays("Yi=0-(" + NINES + ")-11+20;", 2);
    Check.lays("Yi=0-(" + NINES + ")+20-11;", 0);
    Check.lays("Yi=" + NINES + "+10;Yj=0-i-1;", 2);
    Check.lays("Yi=" + NINES + "+10;Yj=1-i-1;", 0);
    Check.lays("Yi=" + NINES + "+10;Yj=0-i;Yk=0-j;", 0);
    Check.lays("Yi=" + NINES + "+10;Yj=0-i;Yk=1-j;", 2);
    Check.lays("Yi=" + NINES + "+10;Yj=0-i;Yk=j-i;", 2);
    LayoutDesk desk = Check.laid("Yi=0-(" + NINES + ")-10;");
    Check.same("the least", desk.symbol(8), -100000);
  }

  private static void rangeOfRaise() {
    Check.sentence("or what a [ ] gives is not from -100000 to 100000");
    // 100000 is a multiple of 32, but not of 64.
    LayoutDesk desk = Check.laid("Yi=[" + NINES + ",32];");
    Check.same("raised to the greatest", desk.symbol(8), 100000);
    Check.lays("Yi=[" + NINES + "+10,32];", 0);
    Check.lays("Yi=[" + NINES + "+10,64];", 2);
    Check.lays("Yi=[" + NINES + ",64];", 2);
    Check.lays("Yi=[" + NINES + "-22,64];", 0);
    Check.lays("Yi=[" + NINES + "-21,64];", 2);
    Check.lays("Yi=[" + NINES + "-21,64]-99;", 2);
  }

  private static void onlyWhatIsReckonedHasARange() {
    Check.sentence("what a +, a - or a [ ] gives");
    // A place beyond the range is no fault of its own: only what is reckoned with it is.
    Check.lays("MA=0,9;SA@" + NINES + "+10{a$i}>A;", 3);
    Check.lays("MA=0,9;SA@" + NINES + "+10{a$i}>A;Yj=(i);", 3);
    Check.lays("MA=0,9;SA@" + NINES + "+10{a$i}>A;Yj=i+0;", 2);
    Check.lays("MA=0,9;SA@" + NINES + "+10{a$i}>A;Yj=i-0;", 2);
    Check.lays("MA=0,9;SA@" + NINES + "+10{a$i}>A;Yj=[i,1];", 2);
    Check.lays("MA=0,9;SA@" + NINES + "+10{a$i}>A;Yj=i-1000;", 3);
  }

  private static void allAreReckoned() {
    Check.sentence("2 is found first for whatever is reckoned: all sections and symbols are");
    Check.lays("MA=0,99;SA@999{a}>A;Yi=j;", 2);
    Check.lays("Yi=j;MA=0,99;SA@999{a}>A;", 2);
    Check.lays("MA=0,99;SA@9{a}>A;SB@9{b}>A;SC@/D{}>A;", 2);
    Check.lays("MA=0,99;SC@[0-1,1]{}>A!;SA@9{a}>A;SB@9{b}>A;", 2);
    Check.lays("MA=0,9;MB=2,9;SA{b}>A^B;Yz=z;", 2);
  }

  private static void anyOrder() {
    Check.sentence("is reckoned first, in whatever order");
    LayoutDesk desk = Check.laid("Yz=y+1;Yy=x+1;Yx=w+1;Yw=v+1;Yv=u+1;Yu=t+1;Yt=s+1;Ys=r+1;Yr=q+1;"
        + "Yq=p+1;Yp=o+1;Yo=n+1;Yn=m+1;Ym=l+1;Yl=k+1;Yk=j+1;Yj=i+1;Yi=1;");
    for (int v = 8; v <= 25; v++) {
      Check.same("symbol " + v, desk.symbol(v), v - 7);
    }
    LayoutDesk sections = Check.laid("MA=0,99;SA@/B+#B{e$i}>A;SB@/C+8{$jf}>A;SC@k-2{}>A;"
        + "Yk=l+1;Yl=5;");
    Check.same("C", sections.section(2, 0), 4);
    Check.same("B", sections.section(1, 0), 12);
    Check.same("A", sections.section(0, 0), 12);
    everyOneOfTwentySix();
  }

  /** Eight sections and as many symbols as the script holds, each of which needs the one behind it. */
  private static void everyOneOfTwentySix() {
    LayoutDesk desk = Check.laid("MA=0,9;SA@i{}>A;Yi=/B;SB@j{}>A;Yj=/C;SC@k{}>A;Yk=/D;SD@l{}>A;"
        + "Yl=/E;SE@m{}>A;Ym=/F;SF@n{}>A;Yn=/G;SG@o{}>A;Yo=/H;SH@p{}>A;Yp=q;Yq=3;");
    for (int t = 0; t < 8; t++) {
      Check.same("section " + t, desk.section(t, 0), 3);
    }
  }
}
