/** Promise 5: what can't be reckoned (2), and that it is found before 3. */
public final class UnknownTest {
  public static void main(String[] args) {
    notTold();
    cyclic();
    range();
    anyOrder();
    Check.end();
  }

  private static void notTold() {
    Check.lays("Yi=z;", 2);
    Check.lays("Yi=1+(2-[j,4]);", 2);
    Check.lays("Yi=/H;", 2);
    Check.lays("Yi=|A;", 2);
    Check.lays("Yi=#A;", 2);
    Check.lays("MA=0,99;SA@#B{a}>A;", 2);
    Check.lays("MA=0,99;SA@999{a}>A;Yi=j;", 2);
  }

  private static void cyclic() {
    Check.lays("Yi=i;", 2);
    Check.lays("Yi=j;Yj=k;Yk=l;Yl=i;", 2);
    Check.lays("Yi=j-j;Yj=j;", 2);
    Check.lays("MA=0,99;SA@/A{a}>A;", 2);
    Check.lays("MA=0,99;SA@#A{a}>A;", 2);
    Check.lays("MA=0,99;SA@|A+1{a}>A!;", 2);
    Check.lays("MA=0,99;SA@i{$i}>A;", 2);
    Check.lays("MA=0,99;SA@i{a}>A;Yi=#B;SB{b}>A;", 2);
    Check.lays("MA=0,99;MB=200,99;SA@/B{a}>A^B;SB{b}>B;", 2);
    Check.lays("MA=0,99;MB=0,99;SA@/B{a}>A;SB@200{b}>B^A;", 2);
    Check.lays("MA=0,99;MB=200,99;SA{a}>A;SB@#A{b}>A;Yi=|C;SC{c}>B^A;Yj=/D;SD@j{}>A;", 2);
    // Sections before are needed only for regions whose places are asked for.
    Check.lays("MA=0,99;SA@/B+7{a}>A;SB@1{b}>A;", 0);
    Check.lays("MA=0,99;MB=200,99;SA@/B-200{a}>A;SB{b}>B;", 0);
  }

  private static void range() {
    String nines = "9999+9999+9999+9999+9999+9999+9999+9999+9999+9999";
    Check.lays("Yi=" + nines + "+10;", 0);
    Check.lays("Yi=" + nines + "+11;", 2);
    Check.lays("Yi=" + nines + "+11-20;", 2);
    Check.lays("Yi=0-(" + nines + ")-10;", 0);
    Check.lays("Yi=0-(" + nines + ")-11;", 2);
    Check.lays("Yi=[" + nines + "+10,32];", 0);
    Check.lays("Yi=[" + nines + "+10,64];", 2);
    Check.lays("Yi=[0,64];", 0);
    Check.lays("Yi=[0-1,1];", 2);
    Check.lays("Yi=[1-1,64];", 0);
    LayoutDesk desk = Check.laid("Yi=" + nines + "+10;Yj=0-i;Yk=[" + nines + ",32];");
    Check.same("most", desk.symbol(8), 100000);
    Check.same("least", desk.symbol(9), -100000);
    Check.same("raised", desk.symbol(10), 100000);
    // A place beyond the range is no fault of its own: only what is reckoned with it is.
    Check.lays("MA=0,9;SA@" + nines + "+10{a$i}>A;Yj=(i);", 3);
    Check.lays("MA=0,9;SA@" + nines + "+10{a$i}>A;Yj=i+0;", 2);
  }

  private static void anyOrder() {
    LayoutDesk desk = Check.laid("Yz=y+1;Yy=x+1;Yx=w+1;Yw=v+1;Yv=u+1;Yu=t+1;Yt=s+1;Ys=r+1;Yr=q+1;"
        + "Yq=p+1;Yp=o+1;Yo=n+1;Yn=m+1;Ym=l+1;Yl=k+1;Yk=j+1;Yj=i+1;Yi=1;");
    for (int v = 8; v <= 25; v++) {
      Check.same("symbol " + v, desk.symbol(v), v - 7);
    }
    LayoutDesk sections = Check.laid("MA=0,99;SA@/B+#B{e$i}>A;SB@/C+8{$jf}>A;SC@k-2{}>A;"
        + "Yk=l+1;Yl=5;");
    Check.same("C", sections.section(2, 0), 4);
    Check.same("B", sections.section(1, 0), 12);
    Check.same("A", sections.section(0, 0), 12);
  }
}
