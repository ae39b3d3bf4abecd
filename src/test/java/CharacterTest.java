/**
 * Promises 5 and 6: the place of the first character that can't stand there, or where the script
 * ends. For every place of the grammar all characters that can be typed are tried.
 */
public final class CharacterTest {
  private static final String DIGITS = "0123456789";
  private static final String SYMBOLS = "ijklmnopqrstuvwxyz";
  private static final String TERM = DIGITS + SYMBOLS + "/|#([";
  private static final String FLAT_TERM = DIGITS + SYMBOLS + "/|#";
  private static final String ITEM = "abcdefgh%$}";
  private static final String STATEMENT = "MSY";
  private static final String NOTHING = "";

  public static void main(String[] args) {
    statements();
    regions();
    sections();
    items();
    homes();
    symbols();
    for (String begin : new String[] {"Yi=", "SA@", "MA=0,9;SA@", "Yi=1+", "Yi=j-"}) {
      expressions(begin, begin.startsWith("Y") ? ";" : "{");
    }
    brackets();
    Check.end();
  }

  /** Behind the prefix these characters can stand, and no other. */
  private static void next(String prefix, String allowed) {
    for (char c = 33; c <= 126; c++) {
      LayoutDesk desk = Check.typed(prefix + c);
      int answer = desk.lay();
      boolean stands = answer != 1 || desk.bad() > prefix.length();
      Check.same(prefix + " with " + c + " behind it stands", stands, allowed.indexOf(c) >= 0);
      if (!stands) {
        Check.same("place of " + c + " behind " + prefix, desk.bad(), prefix.length());
      }
    }
    if (prefix.isEmpty() || prefix.endsWith(";")) {
      Check.same("lay of " + prefix, Check.typed(prefix).lay() == 1, false);
    } else {
      Check.malformed(prefix, prefix.length());
    }
  }

  private static void statements() {
    Check.sentence("of STATEMENTS, each with ; behind it");
    next("", STATEMENT);
    next("MA=0,0;", STATEMENT);
    next("MA=0,9;SA{}>A;", STATEMENT);
    next("Yi=1;", STATEMENT);
    next("MA=0,0000", ";");
    next("MA=0,9;SA{}>A!", ";");
    next("Yi=1234", "+-;");
  }

  private static void regions() {
    Check.sentence("M R = number , number: region R (A .. D)");
    next("M", "ABCD");
    next("MA", "=");
    next("MD=", DIGITS);
    next("MA=0", DIGITS + ",");
    next("MA=012", DIGITS + ",");
    next("MA=0123", ",");
    next("MA=9999", ",");
    next("MA=0,", DIGITS);
    next("MA=0,0", DIGITS + ";");
    Check.sentence("a region's sum that is not as said (the character behind its last digit)");
    next("MA=0,51", DIGITS + ";");
    next("MA=0,512", DIGITS + ";");
    next("MA=0,513", DIGITS);
    next("MA=1,512", DIGITS);
    next("MA=1,511", DIGITS + ";");
    next("MA=0,0513", NOTHING);
    next("MA=0513,0", DIGITS);
    next("MA=9999,9999", NOTHING);
  }

  private static void sections() {
    Check.sentence("S T (A .. H): a section: perhaps @ and an expression, then { ITEMS } > R");
    next("S", "ABCDEFGH");
    next("SA", "@{");
    next("SH@", TERM);
    next("SA@1", DIGITS + "+-{");
    next("SA@i", "+-{");
    next("SA{", ITEM);
    next("SA{}", ">");
    next("SA@1{}", ">");
  }

  private static void items() {
    Check.sentence("ITEMS, one behind the other: a .. h, an input; % number; $ v");
    next("SA{%", DIGITS);
    next("SA{$", SYMBOLS);
    next("SA{$z", ITEM);
    next("SA{a", "bcdefgh%$}");
    next("SA{hgfedcba", "%$}");
    next("MA=0,9;SA{h}>A;SB{", "abcdefg%$}");
    Check.sentence("an alignment that is not as said (the character behind its last digit)");
    for (String fine : new String[] {"1", "2", "4", "8", "16", "32", "64", "001", "064"}) {
      next("SA{%" + fine, DIGITS + ITEM);
    }
    for (String fine : new String[] {"0001", "0064"}) {
      next("SA{%" + fine, ITEM);
    }
    for (String wrong : new String[] {"0", "3", "5", "6", "7", "9", "12", "24", "63", "65", "000",
        "96", "128", "256", "512"}) {
      next("SA{%" + wrong, DIGITS);
    }
    for (String wrong : new String[] {"0000", "0003", "0065", "1024", "4096", "9999"}) {
      next("SA{%" + wrong, NOTHING);
    }
  }

  private static void homes() {
    Check.sentence("a section's region that is not told by then");
    next("SA{}>", NOTHING);
    next("MA=0,9;SA{}>", "A");
    next("MB=0,9;MD=0,9;SA{}>", "BD");
    next("MA=0,9;MB=0,9;MC=0,9;MD=0,9;SA{}>", "ABCD");
    Check.sentence("then perhaps ^ R (another region, in which it is loaded) or ! (NOT LOADED)");
    next("MA=0,9;SA{}>A", "^!;");
    next("MA=0,9;SA{}>A!", ";");
    next("MA=0,9;MC=0,9;SA{}>A^C", ";");
    Check.sentence("or ^ with the region in which it runs");
    next("MA=0,9;SA{}>A^", NOTHING);
    next("MA=0,9;MC=0,9;SA{}>C^", "A");
    next("MA=0,9;MB=0,9;MC=0,9;MD=0,9;SA{}>B^", "ACD");
  }

  private static void symbols() {
    Check.sentence("Y v = expression: symbol v (i .. z)");
    next("Y", SYMBOLS);
    next("Yi", "=");
    next("Yz=", TERM);
    next("Yi=1", DIGITS + "+-;");
    next("Yi=z", "+-;");
  }

  private static void expressions(String begin, String end) {
    Check.sentence("A number: 1 to 4 digits. An EXPRESSION: TERMS with + or - between");
    next(begin, TERM);
    next(begin + "0", DIGITS + "+-" + end);
    next(begin + "012", DIGITS + "+-" + end);
    next(begin + "0123", "+-" + end);
    next(begin + "k", "+-" + end);
    for (String of : new String[] {"/", "|", "#"}) {
      next(begin + of, "ABCDEFGH");
      next(begin + of + "H", "+-" + end);
    }
    next(begin + "1+", TERM);
    next(begin + "1-", TERM);
    next(begin + "(", TERM);
    next(begin + "(123", DIGITS + "+-)");
    next(begin + "(i", "+-)");
    next(begin + "(/A", "+-)");
    next(begin + "(1)", "+-" + end);
    next(begin + "[", TERM);
    next(begin + "[1", DIGITS + "+-,");
    next(begin + "[#A", "+-,");
    next(begin + "[i,", DIGITS);
    next(begin + "[(i", "+-)");
    next(begin + "([i", "+-,");
    next(begin + "[(i)", "+-,");
    next(begin + "([i,1]", "+-)");
    next(begin + "[i,1]", "+-" + end);
    Check.sentence("the number (a power of 2 up to 64)");
    for (String fine : new String[] {"1", "2", "4", "8", "16", "32", "64", "001", "064"}) {
      next(begin + "[i," + fine, DIGITS + "]");
    }
    next(begin + "[i,0064", "]");
    for (String wrong : new String[] {"0", "3", "12", "63", "65", "128"}) {
      next(begin + "[i," + wrong, DIGITS);
    }
    next(begin + "[i,0128", NOTHING);
    next(begin + "[i,0000", NOTHING);
  }

  private static void brackets() {
    Check.sentence("Brackets are at most 5 within one another");
    for (String begin : new String[] {"Yi=", "SA@", "Yi=(1)+", "Yi=[1,1]-(((((1)))))+"}) {
      for (String open : new String[] {"(((((", "[[[[[", "([([(", "[([(["}) {
        next(begin + open.substring(0, 4), TERM);
        next(begin + open, FLAT_TERM);
        next(begin + open + "1+", FLAT_TERM);
      }
      next(begin + "(((((1)", "+-)");
      next(begin + "(((((1)+", TERM);
      next(begin + "(((((1)+(", FLAT_TERM);
      next(begin + "[[[[[1,1]-", TERM);
      next(begin + "[[[[[1,1]-[", FLAT_TERM);
      Check.malformed(begin + "((((([1,1", begin.length() + 5);
    }
  }
}
