import java.util.Random;

/** Many runs of calls drawn at random, each call held against the model. */
public final class ModelTest {
  private static int wrong = 0;
  private static final String[] FACT_WORDS = {"road", "days", "last", "kind", "from", "to", "runs", "all", "day"};
  private static final String[] SIGNS = {"<", "<=", "=", ">=", ">"};

  private final Random draw;
  private final int run;
  private final LastLoads x = new LastLoads();
  private final Model y = new Model();
  private final StringBuilder log = new StringBuilder();
  private int calls;
  private boolean broken;

  private ModelTest(int run) {
    this.run = run;
    this.draw = new Random(run);
  }

  private int to(int n) { return draw.nextInt(n); }

  private void due(String call, long got, long want) {
    calls++;
    log.append(call).append(" = ").append(got).append('\n');
    if (got != want && !broken) {
      broken = true;
      wrong++;
      if (wrong < 4) System.out.println("run " + run + ":\n" + log);
      System.out.println("run " + run + ": " + call + " answered " + got + ", due is " + want);
    }
  }

  private void say(String text) {
    log.append("-- ").append(text).append('\n');
    for (int i = 0; i < text.length(); i += 20) {
      int[] w = Told.words(text, i);
      due("feed", x.feed(w[0], w[1], w[2], w[3], w[4]), y.feed(w));
    }
    due("end " + text.length(), x.end(text.length()), y.end(text.length()));
  }

  private String netText() {
    int size = to(3) == 0 ? 1 + to(10) : 2 + to(5);
    StringBuilder s = new StringBuilder("places " + size);
    if (size == 1) return s.toString();
    int kinds = 1 + to(4);
    int roads = to(4) == 0 ? to(17) : size + to(4);
    for (int i = 0; i < Math.min(16, roads); i++) {
      int a = to(size), b = (a + 1 + to(size - 1)) % size;
      s.append(";road " + a + " " + b + " " + (1 + to(9)) + " " + (to(3) == 0 ? 0 : 1 + to(kinds)));
    }
    for (int i = to(5); i > 0; i--) s.append(";carter " + to(size));
    for (int i = to(9); i > 0; i--) {
      int a = to(size), b = (a + 1 + to(size - 1)) % size;
      s.append(";load " + (1 + to(kinds)) + " " + a + " " + b + " " + to(to(2) == 0 ? 4 : 100));
    }
    return s.toString();
  }

  private String sum() {
    StringBuilder s = new StringBuilder();
    for (int i = to(3); i >= 0; i--) {
      s.append(to(3) == 0 ? "" + to(to(5) == 0 ? 100000 : 9) : FACT_WORDS[to(9)]);
      if (i > 0) s.append(" + - * / ".charAt(1 + 2 * to(4)));
      if (to(4) == 0) s.append(' ');
    }
    return s.toString();
  }

  private String fact(int depth) {
    int k = depth > 4 ? 9 : to(8);
    if (k == 0) return "not " + fact(depth + 1);
    if (k == 1) return "[" + test(depth + 1) + "]";
    return sum() + SIGNS[to(5)] + sum();
  }

  private String test(int depth) {
    StringBuilder s = new StringBuilder(fact(depth));
    while (to(4) == 0) s.append(to(2) == 0 ? " and " : " or ").append(fact(depth));
    return s.toString();
  }

  /** Texts near the limits: of depth, of values, of clauses, of digits. */
  private String wideRuleText() {
    StringBuilder s = new StringBuilder("bar ");
    switch (to(4)) {
      case 0 -> {
        for (int i = 8 + to(5); i > 0; i--) s.append(to(2) == 0 ? "not " : "[");
        s.append("all=0");
        for (int i = s.length() - 1; i >= 0; i--) if (s.charAt(i) == '[') s.append(to(40) == 0 ? ")" : "]");
        if (to(2) == 0) s.append(" or not [not all<3]");
      }
      case 1 -> {
        for (int i = 8 + to(8); i > 0; i--) s.append("1+all").append(to(9) == 0 ? "/to" : "").append("=2 or ");
        s.append(to(2) == 0 ? "day=1" : "123456=1");
      }
      case 2 -> {
        s.append("day=9");
        for (int i = 9 + to(4); i > 0; i--) s.append(to(2) == 0 ? ";bar kind=2" : " ; wipe all>1");
        if (to(3) == 0) s.append(";bars");
      }
      default -> {
        s.append(to(2) == 0 ? "000001=1" : "00001=1");
        s.append("+1".repeat(45 + to(20)));
      }
    }
    return s.toString();
  }

  private String ruleText() {
    if (to(4) == 0) return wideRuleText();
    StringBuilder s = new StringBuilder();
    for (int i = to(4); i >= 0; i--) {
      s.append(to(2) == 0 ? "bar " : "wipe ");
      s.append(to(3) == 0 ? FACT_WORDS[to(9)] + "=" + to(5) : test(0));
      if (i > 0) s.append(to(3) == 0 ? " ; " : ";");
    }
    return s.length() > 380 ? "bar days=9" : s.toString();
  }

  private String spoilt(String text) {
    if (to(4) != 0) return text;
    StringBuilder s = new StringBuilder(text);
    for (int i = 1 + to(2); i > 0 && s.length() > 0; i--) {
      int p = to(s.length());
      switch (to(4)) {
        case 0 -> s.deleteCharAt(p);
        case 1 -> s.insert(p, " ;[]<>=+-*/09az\u00e9".charAt(to(16)));
        case 2 -> s.setCharAt(p, to(2) == 0 ? (char) to(256) : (char) ('0' + to(10)));
        default -> s.insert(p, text.substring(0, Math.min(text.length(), to(12))));
      }
    }
    return s.length() > 395 ? text : s.toString();
  }

  private void text() {
    if (to(3) != 0) {
      say(spoilt(netText()));
      due("net", x.net(), y.net());
    } else {
      say(spoilt(ruleText()));
      due("rule", x.rule(), y.rule());
      if (to(2) == 0) {
        int r = to(8) - 1;
        due("force " + r, x.force(r), y.force(r));
      }
    }
    due("count 10", x.count(10), y.count(10));
  }

  private void hand() {
    int c = to(9) == 0 ? to(7) - 2 : to(2);
    int r = to(9) == 0 ? to(20) - 2 : to(8);
    int l = to(9) == 0 ? to(11) - 2 : to(5);
    switch (to(5)) {
      case 0 -> due("take " + c + " " + l, bit(x.take(c, l)), bit(y.take(c, l)));
      case 1 -> { if (to(2) == 0) due("lay " + c, x.lay(c), y.lay(c)); }
      case 2 -> due("drive " + c + " " + r, x.drive(c, r), y.drive(c, r));
      default -> onward(c);
    }
  }

  /** Drives on by some road that touches the carter's place, if there is one. */
  private void onward(int c) {
    int place = y.carter(c, 0), first = to(16);
    for (int i = 0; i < 16; i++) {
      int r = (first + i) % 16;
      if (place >= 0 && (y.road(r, 0) == place || y.road(r, 1) == place)) {
        due("drive " + c + " " + r, x.drive(c, r), y.drive(c, r));
        return;
      }
    }
  }

  private void ask() {
    int kind = to(9) == 0 ? to(10) - 1 : 1 + to(4), from = to(9) == 0 ? to(13) - 1 : to(4), goal = to(4);
    int what = to(10) - 1;
    switch (to(20)) {
      case 0 -> due("soonest " + kind + " " + from + " " + goal, x.soonest(kind, from, goal), y.soonest(kind, from, goal));
      case 1 -> { int k = to(6) - 1;
        due("way " + kind + " " + from + " " + goal + " " + k, x.way(kind, from, goal, k), y.way(kind, from, goal, k)); }
      case 2 -> due("reached " + kind + " " + from, x.reached(kind, from), y.reached(kind, from));
      case 3 -> { int w = to(4) - 1;
        due("wiped " + kind + " " + from + " " + goal + " " + w, x.wiped(kind, from, goal, w), y.wiped(kind, from, goal, w)); }
      case 4, 5, 6 -> { int c = to(4) - 1, l = to(8) - 1; due("plan " + c + " " + l, x.plan(c, l), y.plan(c, l)); }
      case 7 -> due("stuck", x.stuck(), y.stuck());
      case 8 -> due("order " + what, x.order(what), y.order(what));
      case 9 -> { int r = to(18) - 1; due("dear " + r, x.dear(r), y.dear(r)); }
      case 10 -> { int d = to(11), w = to(5) - 1; due("better " + d + " " + w, x.better(d, w), y.better(d, w)); }
      case 11 -> { int r = to(7) - 1, f = to(10) - 2; due("found " + r + " " + f, bit(x.found(r, f)), bit(y.found(r, f))); }
      case 12, 13 -> { int n = to(5), w = to(7) - 1; due("drove " + n + " " + w, x.drove(n, w), y.drove(n, w)); }
      case 14 -> { int s = to(4) == 0 ? -to(9) : draw.nextInt() & 0x7fffffff; due("seed " + s, x.seed(s), y.seed(s)); }
      case 15 -> { int m = to(4), n = to(9) == 0 ? 28 + to(4) : to(12), w = to(4) - 1;
        due("weeks " + m + " " + n + " " + w, x.weeks(m, n, w), y.weeks(m, n, w)); }
      case 16 -> { int k = to(6) - 1; due("image " + k, x.image(k), y.image(k)); }
      case 17 -> { int k = to(6) - 1; due("back " + k, x.back(k), y.back(k)); }
      case 18 -> { int r = to(8) - 1; due("force " + r, x.force(r), y.force(r)); }
      default -> look();
    }
  }

  private int any() {
    int[] far = {Integer.MIN_VALUE, Integer.MIN_VALUE + 1, -1000000, 400, 1 << 30, Integer.MAX_VALUE - 1, Integer.MAX_VALUE};
    return to(6) == 0 ? far[to(far.length)] : to(14) - 3;
  }

  private static int bit(boolean b) { return b ? 1 : 0; }

  /** A call with arguments that may be anything. */
  private void odd() {
    int a = any(), b = any(), c = any(), d = any();
    String args = " of " + a + " " + b + " " + c + " " + d;
    switch (to(22)) {
      case 0 -> due("end" + args, x.end(a), y.end(a));
      case 1 -> due("force" + args, x.force(a), y.force(a));
      case 2 -> due("road" + args, x.road(a, b), y.road(a, b));
      case 3 -> due("carter" + args, x.carter(a, b), y.carter(a, b));
      case 4 -> due("load" + args, x.load(a, b), y.load(a, b));
      case 5 -> due("drive" + args, x.drive(a, b), y.drive(a, b));
      case 6 -> due("take" + args, bit(x.take(a, b)), bit(y.take(a, b)));
      case 7 -> due("lay" + args, x.lay(a), y.lay(a));
      case 8 -> due("soonest" + args, x.soonest(a, b, c), y.soonest(a, b, c));
      case 9 -> due("way" + args, x.way(a, b, c, d), y.way(a, b, c, d));
      case 10 -> due("reached" + args, x.reached(a, b), y.reached(a, b));
      case 11 -> due("wiped" + args, x.wiped(a, b, c, d), y.wiped(a, b, c, d));
      case 12 -> due("plan" + args, x.plan(a, b), y.plan(a, b));
      case 13 -> due("order" + args, x.order(a), y.order(a));
      case 14 -> due("dear" + args, x.dear(a), y.dear(a));
      case 15 -> due("better" + args, x.better(a, b), y.better(a, b));
      case 16 -> due("found" + args, bit(x.found(a, b)), bit(y.found(a, b)));
      case 17 -> due("drove" + args, x.drove(a, b), y.drove(a, b));
      case 18 -> due("seed" + args, x.seed(a), y.seed(a));
      case 19 -> due("weeks" + args, x.weeks(a, b, c), y.weeks(a, b, c));
      case 20 -> due("count" + args, x.count(a), y.count(a));
      default -> due("back" + args, x.back(a), y.back(a));
    }
  }

  private void look() {
    for (int w = -1; w < 13; w++) due("count " + w, x.count(w), y.count(w));
    int i = to(18) - 1;
    for (int w = -1; w < 6; w++) {
      due("road " + i + " " + w, x.road(i, w), y.road(i, w));
      due("carter " + i + " " + w, x.carter(i, w), y.carter(i, w));
      due("load " + i + " " + w, x.load(i, w), y.load(i, w));
    }
  }

  private void go() {
    for (int i = 0; calls < 450 && i < 500 && !broken; i++) {
      int k = to(40);
      if (i == 0 || k == 0) text();
      else if (k < 18) hand();
      else if (k < 21) odd();
      else ask();
    }
    if (!broken) look();
  }

  public static void main(String[] args) {
    int from = args.length > 0 ? Integer.parseInt(args[0]) : 0;
    int runs = args.length > 1 ? Integer.parseInt(args[1]) : 150;
    for (int run = from; run < from + runs; run++) new ModelTest(run).go();
    System.out.println(wrong == 0 ? "all answers are as due" : wrong + " runs are not as due");
    if (wrong != 0) System.exit(1);
  }
}
