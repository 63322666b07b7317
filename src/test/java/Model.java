import java.util.ArrayList;
import java.util.Arrays;
import java.util.List;
import java.util.function.Predicate;
import java.util.function.ToLongFunction;

/**
 * The document once more, written as plainly as can be and by other means than the class under test
 * (trees for the rules, all simple ways, all orders), so that the two can be held against each other.
 */
final class Model {
  static final int NONE = -1;
  private static final List<String> WORDS =
      List.of("road", "days", "last", "kind", "from", "to", "runs", "all", "day");

  /** What the words of a drive stand for. */
  record Drive(long road, long days, long last, long kind, long from, long to, long runs, long all, long day) {
    long word(int i) {
      return new long[] {road, days, last, kind, from, to, runs, all, day}[i];
    }
  }

  record Rule(List<Predicate<Drive>> bars, List<Predicate<Drive>> wipes) { }

  static final class Road {
    int a, b, days, last, runs;
    Road(int a, int b, int days, int last) { this.a = a; this.b = b; this.days = days; this.last = last; }
    Road same() { Road r = new Road(a, b, days, last); r.runs = runs; return r; }
    int across(int p) { return p == a ? b : p == b ? a : NONE; }
  }

  static final class Carter {
    int place, load = NONE, day;
    Carter same() { Carter c = new Carter(); c.place = place; c.load = load; c.day = day; return c; }
  }

  static final class Load {
    int kind, lies, end, worth;
    Load same() { Load l = new Load(); l.kind = kind; l.lies = lies; l.end = end; l.worth = worth; return l; }
  }

  static final class State {
    int places, all, force = NONE, x;
    List<Road> roads = new ArrayList<>();
    List<Carter> carters = new ArrayList<>();
    List<Load> loads = new ArrayList<>();
    List<Integer> found = new ArrayList<>();
    State same() {
      State s = new State();
      s.places = places; s.all = all; s.force = force; s.x = x;
      for (Road r : roads) s.roads.add(r.same());
      for (Carter c : carters) s.carters.add(c.same());
      for (Load l : loads) s.loads.add(l.same());
      s.found.addAll(found);
      return s;
    }
  }

  @SuppressWarnings("serial")
  static final class Fault extends RuntimeException {
    final int number;
    Fault(int place, int why) { number = 1 + 8 * place + why; }
  }

  record Token(int place, String text) {
    boolean number() { return !text.isEmpty() && Character.isDigit(text.charAt(0)); }
  }

  private List<Integer> tape = new ArrayList<>();
  private final List<Rule> rules = new ArrayList<>();
  private State now = new State();
  private final State[] images = new State[4];

  // ---- texts

  private List<Token> tokens() {
    List<Token> out = new ArrayList<>();
    int i = 0;
    while (i < tape.size()) {
      int start = i;
      StringBuilder s = new StringBuilder();
      int c = tape.get(i);
      if (c == ' ') { i++; continue; }
      if (c >= '0' && c <= '9') {
        while (i < tape.size() && tape.get(i) >= '0' && tape.get(i) <= '9') s.append((char) (int) tape.get(i++));
      } else if (c >= 'a' && c <= 'z') {
        while (i < tape.size() && tape.get(i) >= 'a' && tape.get(i) <= 'z') s.append((char) (int) tape.get(i++));
      } else {
        s.append((char) c);
        i++;
        if ((c == '<' || c == '>') && i < tape.size() && tape.get(i) == '=') { s.append('='); i++; }
      }
      out.add(new Token(start, s.toString()));
    }
    out.add(new Token(tape.size(), ""));
    return out;
  }

  private final class Reader {
    final List<Token> tokens = tokens();
    int i, counted;
    Token next() { return tokens.get(i); }
    boolean is(String s) { return next().text.equals(s); }
    boolean pass(String s) { if (is(s)) { i++; return true; } return false; }
    int number(int least, int most, int unlike) {
      Token t = next();
      if (!t.number()) throw new Fault(t.place, 0);
      if (t.text.length() > 5) throw new Fault(t.place, 1);
      int v = Integer.parseInt(t.text);
      if (v < least || v > most || v == unlike) throw new Fault(t.place, 1);
      i++;
      return v;
    }
    void value() { if (++counted > 60) throw new Fault(next().place, 3); }

    State net() {
      State s = new State();
      int clause = 0;
      do {
        clause++;
        Token t = next();
        boolean first = clause == 1;
        switch (t.text) {
          case "places" -> {
            if (!first) throw new Fault(t.place, 4);
            i++;
            s.places = number(1, 10, NONE);
          }
          case "road" -> {
            if (first || clause > 40 || s.roads.size() == 16) throw new Fault(t.place, 4);
            i++;
            int a = number(0, s.places - 1, NONE);
            int b = number(0, s.places - 1, a);
            int d = number(1, 9, NONE);
            s.roads.add(new Road(a, b, d, number(0, 7, NONE)));
            s.found.add(NONE);
          }
          case "carter" -> {
            if (first || clause > 40 || s.carters.size() == 4) throw new Fault(t.place, 4);
            i++;
            Carter c = new Carter();
            c.place = number(0, s.places - 1, NONE);
            s.carters.add(c);
          }
          case "load" -> {
            if (first || clause > 40 || s.loads.size() == 8) throw new Fault(t.place, 4);
            i++;
            Load l = new Load();
            l.kind = number(1, 7, NONE);
            l.lies = number(0, s.places - 1, NONE);
            l.end = number(0, s.places - 1, l.lies);
            l.worth = number(0, 99, NONE);
            s.loads.add(l);
          }
          default -> throw new Fault(t.place, 0);
        }
      } while (pass(";"));
      if (!is("")) throw new Fault(next().place, 0);
      return s;
    }

    Rule rule() {
      Rule r = new Rule(new ArrayList<>(), new ArrayList<>());
      int clause = 0;
      do {
        Token t = next();
        if (!is("bar") && !is("wipe")) throw new Fault(t.place, 0);
        if (++clause > 12) throw new Fault(t.place, 4);
        i++;
        Predicate<Drive> test = test(0);
        (t.text.equals("bar") ? r.bars : r.wipes).add(test);
      } while (pass(";"));
      if (!is("")) throw new Fault(next().place, 0);
      return r;
    }

    Predicate<Drive> test(int depth) {
      Predicate<Drive> t = part(depth);
      while (pass("or")) t = t.or(part(depth));
      return t;
    }

    Predicate<Drive> part(int depth) {
      Predicate<Drive> t = fact(depth);
      while (pass("and")) t = t.and(fact(depth));
      return t;
    }

    Predicate<Drive> fact(int depth) {
      Token t = next();
      if (is("not") || is("[")) {
        if (depth == 10) throw new Fault(t.place, 2);
        i++;
        if (t.text.equals("not")) return fact(depth + 1).negate();
        Predicate<Drive> inner = test(depth + 1);
        if (!pass("]")) throw new Fault(next().place, 0);
        return inner;
      }
      ToLongFunction<Drive> left = sum();
      Token sign = next();
      if (!List.of("<", "<=", "=", ">=", ">").contains(sign.text)) throw new Fault(sign.place, 0);
      value();
      i++;
      ToLongFunction<Drive> right = sum();
      return d -> {
        int c = Long.compare(left.applyAsLong(d), right.applyAsLong(d));
        return switch (sign.text) {
          case "<" -> c < 0;
          case "<=" -> c <= 0;
          case "=" -> c == 0;
          case ">=" -> c >= 0;
          default -> c > 0;
        };
      };
    }

    ToLongFunction<Drive> sum() {
      ToLongFunction<Drive> s = term();
      while (is("+") || is("-")) {
        boolean plus = is("+");
        i++;
        ToLongFunction<Drive> l = s, r = term();
        s = d -> plus ? l.applyAsLong(d) + r.applyAsLong(d) : l.applyAsLong(d) - r.applyAsLong(d);
      }
      return s;
    }

    ToLongFunction<Drive> term() {
      ToLongFunction<Drive> s = atom();
      while (is("*") || is("/")) {
        boolean times = is("*");
        i++;
        ToLongFunction<Drive> l = s, r = atom();
        s = d -> {
          long by = r.applyAsLong(d);
          return times ? l.applyAsLong(d) * by : by == 0 ? 0 : l.applyAsLong(d) / by;
        };
      }
      return s;
    }

    ToLongFunction<Drive> atom() {
      Token t = next();
      if (t.number()) {
        if (t.text.length() > 5) throw new Fault(t.place, 1);
        value();
        i++;
        long n = Long.parseLong(t.text);
        return d -> n;
      }
      int w = WORDS.indexOf(t.text);
      if (w < 0) throw new Fault(t.place, 0);
      value();
      i++;
      return d -> d.word(w);
    }
  }

  // ---- laws

  private Drive told(State s, int road, int from, int kind, int day) {
    Road r = s.roads.get(road);
    return new Drive(road, r.days, r.last, kind, from, r.across(from), r.runs, s.all, day);
  }

  private int broken(State s, int road, int from, int kind, int day) {
    Road r = s.roads.get(road);
    if (r.a != from && r.b != from) return 1;
    if (!(kind == 0 || r.last == 0 || r.last == kind)) return 2;
    if (s.force != NONE) {
      Drive d = told(s, road, from, kind, day);
      for (Predicate<Drive> bar : rules.get(s.force).bars) if (bar.test(d)) return 3;
    }
    return 0;
  }

  private int lastAfter(State s, int road, int from, int kind, int day) {
    if (kind != 0) return kind;
    if (s.force == NONE) return 0;
    Drive d = told(s, road, from, kind, day);
    for (Predicate<Drive> wipe : rules.get(s.force).wipes) if (wipe.test(d)) return 0;
    return s.roads.get(road).last;
  }

  // ---- ways: all of them are tried

  private List<Integer> bestWay;
  private int bestDays;

  private void tryWays(State s, boolean[][] open, int at, int to, int visited, int days, List<Integer> way) {
    if (at == to) {
      if (bestWay == null || days < bestDays) { bestWay = new ArrayList<>(way); bestDays = days; }
      return;
    }
    for (int r = 0; r < s.roads.size(); r++) {
      int next = s.roads.get(r).across(at);
      if (next == NONE || (visited >> next & 1) != 0 || !open[r][at]) continue;
      way.add(r);
      tryWays(s, open, next, to, visited | 1 << next, days + s.roads.get(r).days, way);
      way.remove(way.size() - 1);
    }
  }

  /** The way as a row of roads, or null; the first found of the shortest is the one with the least roads. */
  private List<Integer> findWay(State s, int kind, int from, int to) {
    boolean[][] open = new boolean[s.roads.size()][10];
    for (int r = 0; r < s.roads.size(); r++)
      for (int p = 0; p < s.places; p++) open[r][p] = broken(s, r, p, kind, 0) == 0;
    bestWay = null;
    tryWays(s, open, from, to, 1 << from, 0, new ArrayList<>());
    return bestWay;
  }

  private int daysOf(State s, List<Integer> way) {
    int d = 0;
    for (int r : way) d += s.roads.get(r).days;
    return d;
  }

  private boolean goes(State s, int kind, int from, int to) {
    List<Integer> way = findWay(s, kind, from, to);
    if (way == null) return false;
    for (int r : way) {
      s.roads.get(r).last = kind;
      s.roads.get(r).runs++;
      s.all++;
    }
    return true;
  }

  private List<Integer> waiting() {
    List<Integer> out = new ArrayList<>();
    for (int l = 0; l < now.loads.size(); l++) {
      Load x = now.loads.get(l);
      if (x.lies != NONE && x.lies != x.end) out.add(l);
    }
    return out;
  }

  private int stuckBits(State s) {
    int bits = 0;
    for (int l : waiting()) {
      Load x = now.loads.get(l);
      if (findWay(s, x.kind, x.lies, x.end) == null) bits |= 1 << l;
    }
    return bits;
  }

  private static void rows(List<Integer> of, int n, List<Integer> row, List<List<Integer>> out) {
    if (row.size() == n) { out.add(new ArrayList<>(row)); return; }
    for (int l : of) {
      if (row.contains(l)) continue;
      row.add(l);
      rows(of, n, row, out);
      row.remove(row.size() - 1);
    }
  }

  private int[] bestOrder(State from) {
    List<Integer> of = waiting();
    if (of.size() > 6) of = of.subList(0, 6);
    List<List<Integer>> all = new ArrayList<>();
    rows(of, of.size(), new ArrayList<>(), all);
    int[] best = null;
    for (List<Integer> row : all) {
      State s = from.same();
      int worth = 0, gone = 0;
      for (int l : row) {
        Load x = now.loads.get(l);
        if (goes(s, x.kind, x.lies, x.end)) { worth += x.worth; gone++; }
      }
      if (best == null || worth > best[0]) {
        best = new int[] {worth, gone, -2, -2, -2, -2, -2, -2};
        for (int i = 0; i < row.size(); i++) best[2 + i] = row.get(i);
      }
    }
    return best;
  }

  // ---- the face

  int feed(int... five) {
    if (tape.size() + 20 > 400) return NONE;
    for (int n : five) for (int shift = 24; shift >= 0; shift -= 8) tape.add(n >> shift & 255);
    return tape.size();
  }

  int end(int n) {
    if (n < 0 || n > tape.size()) return NONE;
    tape = new ArrayList<>(tape.subList(0, n));
    return n;
  }

  int net() {
    try {
      State s = new Reader().net();
      s.force = now.force;
      s.x = now.x;
      now = s;
      return s.roads.size();
    } catch (Fault f) {
      return -2 - f.number;
    } finally {
      tape.clear();
    }
  }

  int rule() {
    if (rules.size() == 6) return NONE;
    try {
      rules.add(new Reader().rule());
      return rules.size() - 1;
    } catch (Fault f) {
      return -2 - f.number;
    } finally {
      tape.clear();
    }
  }

  int force(int rule) {
    if (rule < NONE || rule >= rules.size()) return -2;
    int was = now.force;
    now.force = rule;
    return was;
  }

  private boolean isRoad(int r) { return r >= 0 && r < now.roads.size(); }
  private boolean isCarter(int c) { return c >= 0 && c < now.carters.size(); }
  private boolean isLoad(int l) { return l >= 0 && l < now.loads.size(); }
  private boolean isPlace(int p) { return p >= 0 && p < now.places; }
  private static boolean isKind(int k) { return k >= 1 && k <= 7; }

  int road(int road, int what) {
    if (!isRoad(road) || what < 0 || what > 4) return NONE;
    Road r = now.roads.get(road);
    return new int[] {r.a, r.b, r.days, r.last, r.runs}[what];
  }

  int carter(int carter, int what) {
    if (!isCarter(carter) || what < 0 || what > 2) return NONE;
    Carter c = now.carters.get(carter);
    return new int[] {c.place, c.load, c.day}[what];
  }

  int load(int load, int what) {
    if (!isLoad(load) || what < 0 || what > 4) return NONE;
    Load l = now.loads.get(load);
    return new int[] {l.kind, l.lies, l.end, l.worth, l.lies == l.end ? 1 : 0}[what];
  }

  int drive(int carter, int road) {
    if (!isCarter(carter) || !isRoad(road)) return NONE;
    Carter c = now.carters.get(carter);
    Road r = now.roads.get(road);
    int kind = c.load == NONE ? 0 : now.loads.get(c.load).kind;
    int law = broken(now, road, c.place, kind, c.day);
    if (law != 0) return -2 - law;
    if (c.day + r.days > 9999) return -2;
    r.last = lastAfter(now, road, c.place, kind, c.day);
    r.runs++;
    now.all++;
    c.day += r.days;
    return c.place = r.across(c.place);
  }

  boolean take(int carter, int load) {
    if (!isCarter(carter) || !isLoad(load)) return false;
    Carter c = now.carters.get(carter);
    Load l = now.loads.get(load);
    if (c.load != NONE || l.lies != c.place) return false;
    c.load = load;
    l.lies = NONE;
    return true;
  }

  int lay(int carter) {
    if (!isCarter(carter)) return NONE;
    Carter c = now.carters.get(carter);
    int l = c.load;
    if (l == NONE) return NONE;
    now.loads.get(l).lies = c.place;
    c.load = NONE;
    return l;
  }

  int soonest(int kind, int from, int to) {
    if (!isKind(kind) || !isPlace(from) || !isPlace(to)) return NONE;
    List<Integer> way = findWay(now, kind, from, to);
    return way == null ? -2 : daysOf(now, way);
  }

  int way(int kind, int from, int to, int k) {
    if (!isKind(kind) || !isPlace(from) || !isPlace(to) || k < 0) return NONE;
    List<Integer> way = findWay(now, kind, from, to);
    return way == null || k >= way.size() ? -2 : way.get(k);
  }

  int reached(int kind, int from) {
    if (!isKind(kind) || !isPlace(from)) return NONE;
    int bits = 0;
    for (int p = 0; p < now.places; p++) if (findWay(now, kind, from, p) != null) bits |= 1 << p;
    return bits;
  }

  private int wipedRoads, wipedDays;

  private void tryWiped(int kind, int at, int to, int visited, int wiped, int days) {
    if (at == to) {
      if (wipedRoads < 0 || wiped < wipedRoads || wiped == wipedRoads && days < wipedDays) {
        wipedRoads = wiped;
        wipedDays = days;
      }
      return;
    }
    for (Road r : now.roads) {
      int next = r.across(at);
      if (next == NONE || (visited >> next & 1) != 0) continue;
      boolean must = r.last != 0 && r.last != kind;
      tryWiped(kind, next, to, visited | 1 << next, must ? wiped + 1 : wiped, days + r.days);
    }
  }

  int wiped(int kind, int from, int to, int what) {
    if (!isKind(kind) || !isPlace(from) || !isPlace(to) || what < 0 || what > 1) return NONE;
    wipedRoads = -2;
    wipedDays = -2;
    tryWiped(kind, from, to, 1 << from, 0, 0);
    return what == 0 ? wipedRoads : wipedDays;
  }

  private static final class Situation {
    int place, days;
    boolean has, gone;
    int[] last;
  }

  int plan(int carter, int load) {
    if (!isCarter(carter) || !isLoad(load) || now.carters.get(carter).load != NONE) return NONE;
    Load l = now.loads.get(load);
    if (l.lies == NONE || l.lies == l.end) return NONE;
    Carter c = now.carters.get(carter);
    List<Situation> row = new ArrayList<>();
    Situation first = new Situation();
    first.place = c.place;
    first.has = c.place == l.lies;
    first.last = now.roads.stream().mapToInt(r -> r.last).toArray();
    row.add(first);
    while (true) {
      Situation s = null;
      for (Situation t : row) if (!t.gone && (s == null || t.days < s.days)) s = t;
      if (s == null) return -2;
      if (s.has && s.place == l.end) return s.days;
      s.gone = true;
      State tale = now.same();
      for (int r = 0; r < s.last.length; r++) tale.roads.get(r).last = s.last[r];
      int kind = s.has ? l.kind : 0;
      for (int r = 0; r < s.last.length; r++) {
        if (broken(tale, r, s.place, kind, c.day + s.days) != 0) continue;
        Situation n = new Situation();
        n.last = s.last.clone();
        n.last[r] = lastAfter(tale, r, s.place, kind, c.day + s.days);
        n.place = tale.roads.get(r).across(s.place);
        n.has = s.has || n.place == l.lies;
        n.days = s.days + tale.roads.get(r).days;
        Situation old = null;
        for (Situation t : row)
          if (t.place == n.place && t.has == n.has && Arrays.equals(t.last, n.last)) old = t;
        if (old == null) {
          if (row.size() == 1000) return -3;
          row.add(n);
        } else if (!old.gone && n.days < old.days) {
          old.days = n.days;
        }
      }
    }
  }

  int stuck() { return now.places == 0 ? NONE : stuckBits(now); }

  int order(int what) {
    if (now.places == 0 || what < 0 || what > 7) return NONE;
    return bestOrder(now)[what];
  }

  int dear(int road) {
    if (!isRoad(road)) return NONE;
    State s = now.same();
    s.roads.get(road).last = 0;
    return bestOrder(s)[0] - bestOrder(now)[0];
  }

  int better(int days, int what) {
    if (days < 1 || days > 9 || what < 0 || what > 2 || now.places < 2) return NONE;
    int[] best = null;
    for (int a = 0; a < now.places; a++)
      for (int b = a + 1; b < now.places; b++) {
        State s = now.same();
        s.roads.add(new Road(a, b, days, 0));
        int n = Integer.bitCount(stuckBits(s));
        if (best == null || n < best[2]) best = new int[] {a, b, n};
      }
    return best[what];
  }

  boolean found(int road, int last) {
    if (!isRoad(road) || last < NONE || last > 7) return false;
    now.found.set(road, last);
    return true;
  }

  int drove(int n, int what) {
    if (now.places == 0 || n < 1 || n > 3 || what < 0 || what > 4 || what != 4 && what > n) return NONE;
    List<List<Integer>> all = new ArrayList<>();
    rows(waiting(), n, new ArrayList<>(), all);
    List<List<Integer>> good = new ArrayList<>();
    for (List<Integer> row : all) {
      State s = now.same();
      boolean ok = true;
      for (int l : row) {
        Load x = now.loads.get(l);
        ok = ok && goes(s, x.kind, x.lies, x.end);
      }
      for (int r = 0; r < now.roads.size(); r++)
        ok = ok && (now.found.get(r) == NONE || now.found.get(r) == s.roads.get(r).last);
      if (ok) good.add(row);
    }
    if (what == 0) return good.size();
    if (what < 4) return good.isEmpty() ? -2 : good.get(0).get(what - 1);
    int bits = 0;
    for (int l = 0; l < 8 && !good.isEmpty(); l++) {
      int load = l;
      if (good.stream().allMatch(r -> r.contains(load))) bits |= 1 << l;
    }
    return bits;
  }

  int seed(int x) {
    if (x < 0) return NONE;
    int was = now.x;
    now.x = x;
    return was;
  }

  int weeks(int m, int n, int what) {
    if (now.places == 0 || m < 1 || m > 20 || n < 1 || n > 30 || what < 0 || what > 1) return NONE;
    long x = now.x;
    int gone = 0, days = 0;
    for (int week = 0; week < m; week++) {
      State s = now.same();
      for (int cart = 0; cart < n; cart++) {
        int[] draws = new int[3];
        for (int i = 0; i < 3; i++) {
          x = (x * 1103515245L + 12345L) % 2147483648L;
          draws[i] = (int) (x / 65536);
        }
        int kind = 1 + draws[0] % 7, from = draws[1] % s.places, to = draws[2] % s.places;
        if (from == to) continue;
        List<Integer> way = findWay(s, kind, from, to);
        if (way == null) continue;
        gone++;
        days += daysOf(s, way);
        goes(s, kind, from, to);
      }
    }
    return what == 0 ? gone : days;
  }

  int count(int what) {
    switch (what) {
      case 0: return now.places;
      case 1: return now.roads.size();
      case 2: return now.carters.size();
      case 3: return now.loads.size();
      case 4: return (int) now.loads.stream().filter(l -> l.lies == l.end).count();
      case 5: return now.all;
      case 6: return rules.size();
      case 7: return now.force;
      case 8: return (int) now.found.stream().filter(f -> f != NONE).count();
      case 9: return now.x;
      case 10: return tape.size();
      case 11: return (int) now.roads.stream().filter(r -> r.last == 0).count();
      default: return NONE;
    }
  }

  int image(int k) {
    if (k < 0 || k > 3) return NONE;
    images[k] = now.same();
    return now.all;
  }

  int back(int k) {
    if (k < 0 || k > 3 || images[k] == null) return NONE;
    now = images[k].same();
    return now.all;
  }
}
