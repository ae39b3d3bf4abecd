import java.util.ArrayList;
import java.util.Arrays;
import java.util.HashMap;
import java.util.List;
import java.util.Map;

/**
 * The document once more, written another way than the program: expressions are trees, and what is
 * needed is reckoned by recursion, so that a slip in the one is seen against the other.
 */
final class Model {
  /** The failure of a layout, with the place when the script is malformed. */
  static final class Failure extends RuntimeException {
    private static final long serialVersionUID = 1;
    final int kind;
    final int place;

    Failure(int kind, int place) {
      super(null, null, false, false);
      this.kind = kind;
      this.place = place;
    }
  }

  interface Expression {
    int value();
  }

  final class Part {
    char letter;
    Expression address;
    String items = "";
    List<Integer> aligns = new ArrayList<>();
    char home;
    char loadHome = 0;
    boolean loaded = true;
    int begin;
    int size;
    int load;
    int state = 0;
  }

  final int[] size = new int[8];
  final int[] align = new int[8];
  final int[] seed = new int[8];
  final Map<Character, int[]> regions = new HashMap<>();
  final Map<Character, Part> parts = new HashMap<>();
  final List<Part> order = new ArrayList<>();
  final Map<Character, Expression> formulas = new HashMap<>();
  final Map<Character, Part> marks = new HashMap<>();
  final Map<Character, Integer> values = new HashMap<>();
  final Map<Character, Boolean> busy = new HashMap<>();
  final Map<Character, Integer> put = new HashMap<>();
  final List<Part> copies = new ArrayList<>();
  final int[] memory = new int[512];
  private String text;
  private int at;

  Failure lay(String script) {
    for (Map<?, ?> map : List.of(regions, parts, formulas, marks, values, busy, put)) {
      map.clear();
    }
    order.clear();
    copies.clear();
    text = script;
    at = 0;
    try {
      while (at < text.length()) {
        statement();
      }
      reckon();
      check();
    } catch (Failure failure) {
      return failure;
    }
    return null;
  }

  private Failure malformed() {
    return new Failure(1, at);
  }

  private char peek() {
    return at < text.length() ? text.charAt(at) : ' ';
  }

  private void want(boolean fine) {
    if (!fine) {
      throw malformed();
    }
  }

  private char one(String allowed) {
    char c = peek();
    want(allowed.indexOf(c) >= 0);
    at++;
    return c;
  }

  @SafeVarargs
  private char fresh(String allowed, Map<Character, ?>... told) {
    for (Map<Character, ?> map : told) {
      want(!map.containsKey(peek()));
    }
    return one(allowed);
  }

  private int number() {
    int from = at;
    one("0123456789");
    while (at - from < 4 && Character.isDigit(peek())) {
      at++;
    }
    return Integer.parseInt(text.substring(from, at));
  }

  private int alignment() {
    int n = number();
    want(List.of(1, 2, 4, 8, 16, 32, 64).contains(n));
    return n;
  }

  private void statement() {
    char kind = one("MSY");
    if (kind == 'M') {
      char r = fresh("ABCD", regions);
      one("=");
      int origin = number();
      one(",");
      int length = number();
      want(origin + length <= 512);
      regions.put(r, new int[] {origin, length});
    } else if (kind == 'S') {
      part();
    } else {
      char v = fresh("ijklmnopqrstuvwxyz", formulas, marks);
      one("=");
      formulas.put(v, expression(0));
    }
    one(";");
  }

  private void part() {
    Part part = new Part();
    part.letter = fresh("ABCDEFGH", parts);
    parts.put(part.letter, part);
    order.add(part);
    if (peek() == '@') {
      at++;
      part.address = expression(0);
    }
    one("{");
    while (peek() != '}') {
      if (peek() == '%') {
        at++;
        part.aligns.add(alignment());
        part.items += '%';
      } else if (peek() == '$') {
        at++;
        char v = fresh("ijklmnopqrstuvwxyz", formulas, marks);
        marks.put(v, part);
        part.items += v;
      } else {
        char k = fresh("abcdefgh", put);
        put.put(k, -1);
        part.items += k;
      }
    }
    at++;
    one(">");
    want(regions.containsKey(peek()));
    part.home = one("ABCD");
    if (peek() == '!') {
      at++;
      part.loaded = false;
    } else if (peek() == '^') {
      at++;
      want(regions.containsKey(peek()) && peek() != part.home);
      part.loadHome = one("ABCD");
    }
  }

  private Expression expression(int depth) {
    Expression left = term(depth);
    while (peek() == '+' || peek() == '-') {
      boolean plus = one("+-") == '+';
      Expression first = left;
      Expression second = term(depth);
      left = () -> ranged(first.value() + (plus ? second.value() : -second.value()));
    }
    return left;
  }

  private Expression term(int depth) {
    char c = peek();
    if (Character.isDigit(c)) {
      int n = number();
      return () -> n;
    }
    want(depth < 5 || c != '(' && c != '[');
    one("ijklmnopqrstuvwxyz/|#([");
    switch (c) {
      case '/', '|', '#': {
        char t = one("ABCDEFGH");
        return () -> ofPart(c, t);
      }
      case '(': {
        Expression inner = expression(depth + 1);
        one(")");
        return inner;
      }
      case '[': {
        Expression inner = expression(depth + 1);
        one(",");
        int n = alignment();
        one("]");
        return () -> raisedFromZero(inner.value(), n);
      }
      default:
        return () -> symbol(c);
    }
  }

  private static int ranged(int value) {
    if (Math.abs(value) > 100000) {
      throw new Failure(2, -1);
    }
    return value;
  }

  private static int raisedFromZero(int value, int n) {
    if (value < 0) {
      throw new Failure(2, -1);
    }
    return ranged(raised(value, n));
  }

  private static int raised(int value, int n) {
    while (Math.floorMod(value, n) != 0) {
      value++;
    }
    return value;
  }

  private int ofPart(char what, char t) {
    Part part = parts.get(t);
    if (part == null) {
      throw new Failure(2, -1);
    }
    reckon(part);
    return what == '/' ? part.begin : what == '#' ? part.size : part.load;
  }

  int symbol(char v) {
    if (marks.containsKey(v)) {
      reckon(marks.get(v));
    } else if (!values.containsKey(v)) {
      if (!formulas.containsKey(v) || busy.put(v, true) != null) {
        throw new Failure(2, -1);
      }
      values.put(v, formulas.get(v).value());
    }
    return values.get(v);
  }

  private void reckon() {
    for (Part part : order) {
      reckon(part);
    }
    for (char v : formulas.keySet()) {
      symbol(v);
    }
  }

  private void reckon(Part part) {
    if (part.state == 2) {
      return;
    }
    if (part.state == 1) {
      throw new Failure(2, -1);
    }
    part.state = 1;
    int greatest = 1;
    for (int n : part.aligns) {
      greatest = Math.max(greatest, n);
    }
    for (char c : part.items.toCharArray()) {
      greatest = Math.max(greatest, c >= 'a' && c <= 'h' ? align[c - 'a'] : 1);
    }
    part.begin = part.address != null ? part.address.value()
        : raised(placeOf(part.home, part), greatest);
    part.load = !part.loaded ? -1 : part.loadHome == 0 ? part.begin
        : raised(placeOf(part.loadHome, part), greatest);
    int place = part.begin;
    int percents = 0;
    for (char c : part.items.toCharArray()) {
      if (c == '%') {
        place = raised(place, part.aligns.get(percents++));
      } else if (c >= 'i') {
        values.put(c, place);
      } else {
        place = raised(place, align[c - 'a']);
        put.put(c, place);
        place += size[c - 'a'];
      }
    }
    part.size = place - part.begin;
    part.state = 2;
  }

  private int placeOf(char region, Part part) {
    Part latest = null;
    for (Part before : order.subList(0, order.indexOf(part))) {
      if (before.home == region || before.loadHome == region) {
        latest = before;
      }
    }
    if (latest == null) {
      return regions.get(region)[0];
    }
    reckon(latest);
    return latest.size + (latest.home == region ? latest.begin : latest.load);
  }

  private void check() {
    for (Part part : order) {
      inside(part.home, part.begin, part.size);
      if (part.loadHome != 0) {
        inside(part.loadHome, part.load, part.size);
      }
    }
    boolean[] run = new boolean[512];
    boolean[] load = new boolean[512];
    for (Part part : order) {
      take(run, part.begin, part.size);
      take(load, part.load, part.loaded ? part.size : 0);
      if (part.loaded && part.load != part.begin && part.size > 0) {
        copies.add(part);
      }
    }
    boolean[] written = new boolean[512];
    for (Part copy : copies) {
      Arrays.fill(written, copy.begin, copy.begin + copy.size, true);
      for (int i = 0; i < copy.size; i++) {
        if (written[copy.load + i]) {
          throw new Failure(5, -1);
        }
      }
    }
  }

  private void inside(char region, int begin, int bytes) {
    int[] r = regions.get(region);
    if (begin < r[0] || begin + bytes > r[0] + r[1]) {
      throw new Failure(3, -1);
    }
  }

  private static void take(boolean[] taken, int begin, int bytes) {
    for (int i = begin; i < begin + bytes; i++) {
      if (taken[i]) {
        throw new Failure(4, -1);
      }
      taken[i] = true;
    }
  }

  void load() {
    Arrays.fill(memory, 170);
    for (Part part : order) {
      if (part.loaded) {
        for (int i = 0; i < part.size; i++) {
          memory[part.load + i] = 0;
        }
        for (char c : part.items.toCharArray()) {
          for (int i = 0; c >= 'a' && c <= 'h' && i < size[c - 'a']; i++) {
            memory[part.load - part.begin + put.get(c) + i] = (seed[c - 'a'] + i) % 256;
          }
        }
      }
    }
  }

  void start() {
    for (Part copy : copies) {
      for (int i = 0; i < copy.size; i++) {
        memory[copy.begin + i] = memory[copy.load + i];
      }
    }
    for (Part part : order) {
      if (!part.loaded) {
        Arrays.fill(memory, part.begin, part.begin + part.size, 0);
      }
    }
  }
}
