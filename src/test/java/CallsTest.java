import java.util.function.ToLongFunction;

/** Each sentence of the promises that names a boundary: what is refused, what is answered then, and what stays. */
public final class CallsTest extends Check {
  private static final int MIN = Integer.MIN_VALUE;
  private static final int MAX = Integer.MAX_VALUE;
  private static final String UNTOUCHED = Rich.trace(Rich.make());

  /** A call that has one argument of several told. */
  private interface Call {
    long on(LastLoads x, int argument);
  }

  /** The call answers so, and all is as it was. */
  private static void nothingHappens(String call, long want, ToLongFunction<LastLoads> ask) {
    LastLoads x = Rich.make();
    due(call, ask.applyAsLong(x), want);
    due(call + ": all as it was", Rich.trace(x).equals(UNTOUCHED), true);
  }

  private static void refused(String call, long want, Call ask, int... arguments) {
    for (int a : arguments) nothingHappens(call + " of " + a, want, x -> ask.on(x, a));
  }

  private static long bit(boolean b) { return b ? 1 : 0; }

  private static void calls() {
    says("An object is used for at most 512 calls after it has been made");
    LastLoads x = with("places 2;road 0 1 9 0;carter 0");
    for (int i = 0; i < 507; i++) due("drive " + i, x.drive(0, 0), (i + 1) % 2);
    due("the 512th", x.carter(0, 2), 9 * 507);
  }

  private static void newObject() {
    says("LastLoads(): No NET, no RULES, none IN FORCE");
    LastLoads x = new LastLoads();
    int[] counts = {0, 0, 0, 0, 0, 0, 0, -1, 0, 0, 0, 0};
    for (int what = 0; what < 12; what++) due("count " + what, x.count(what), counts[what]);
    withoutNet(x);
    due("force 0", x.force(0), -2);
    for (int k = 0; k < 4; k++) due("back " + k, x.back(k), -1);

    says("NONE without a NET");
    LastLoads y = new LastLoads();
    y.image(1);
    net(y, "places 2;road 0 1 1 0;carter 0;load 1 0 1 1");
    y.found(0, 1);
    due("back to none", y.back(1), 0);
    withoutNet(y);

    says("one object is not another");
    LastLoads z = Rich.make();
    withoutNet(new LastLoads());
    due("untouched", Rich.trace(z).equals(UNTOUCHED), true);
  }

  private static void withoutNet(LastLoads x) {
    for (int what = 0; what < 5; what++) {
      due("road", x.road(0, what), -1);
      due("carter", x.carter(0, what), -1);
      due("load", x.load(0, what), -1);
      due("better", x.better(1, what), -1);
      due("drove", x.drove(3, what), -1);
      due("weeks", x.weeks(1, 1, what), -1);
      due("wiped", x.wiped(1, 0, 0, what), -1);
    }
    for (int what = 0; what < 8; what++) due("order", x.order(what), -1);
    due("drive", x.drive(0, 0), -1);
    due("take", x.take(0, 0), false);
    due("lay", x.lay(0), -1);
    due("soonest", x.soonest(1, 0, 0), -1);
    due("way", x.way(1, 0, 0, 0), -1);
    due("reached", x.reached(1, 0), -1);
    due("plan", x.plan(0, 0), -1);
    due("stuck", x.stuck(), -1);
    due("dear", x.dear(0), -1);
    due("found", x.found(0, 0), false);
    due("found", x.found(0, -1), false);
  }

  private static void feed() {
    says("feed: Twenty bytes come behind the TAPE, of each number the highest first: how many it has");
    LastLoads x = new LastLoads();
    // "places 2;road 0 1 1 " and "7"
    due("20", x.feed(1886151011, 1702043698, 997355361, 1679831072, 824193312), 20);
    due("40", x.feed(0x37000000, 0, 0, 0, 0), 40);
    x.end(21);
    due("behind 21", x.feed(0x20202020, 0x20202020, 0x20202020, 0x20202020, 0x20202020), 41);
    due("net", x.net(), 1);
    due("its LAST", x.road(0, 3), 7);
    // bytes of 128 and above, and 0, count as one each
    x.feed(0xFFFFFFFF, 0x80000000, 0, MAX, MIN);
    due("20", x.count(10), 20);
    due("not a blank", x.net(), -3);
    x.feed(0x20202020, 0x20202020, 0x20202020, 0x20202020, 0x202020A0);
    due("not a blank", x.net(), -3 - 8 * 19);

    says("feed: NONE, and none comes, if it would have more than 400");
    LastLoads y = new LastLoads();
    for (int i = 1; i <= 20; i++) due("feed", y.feed(0x20202020, 0, 0, 0, 0), 20 * i);
    due("on 400", y.feed(0, 0, 0, 0, 0), -1);
    due("has", y.count(10), 400);
    y.end(381);
    due("on 381", y.feed(0, 0, 0, 0, 0), -1);
    due("has", y.count(10), 381);
    y.end(380);
    due("on 380", y.feed(0, 0, 0, 0, 0), 400);
    LastLoads z = new LastLoads();
    String text = "places 3" + " ".repeat(373);
    Told.say(z, text);
    due("on 381", z.feed(0x78787878, 0x78787878, 0x78787878, 0x78787878, 0x78787878), -1);
    due("as it was", z.net(), 0);
    due("as it was", z.count(0), 3);
  }

  private static void end() {
    says("end: The TAPE has its first n bytes alone: n");
    LastLoads x = new LastLoads();
    Told.say(x, "places 2;places 2");
    due("17", x.end(17), 17);
    due("8", x.end(8), 8);
    due("has", x.count(10), 8);
    due("net", x.net(), 0);
    due("0 of 0", x.end(0), 0);
    Told.say(x, "x");
    due("0 of 1", x.end(0), 0);
    due("has", x.count(10), 0);

    says("end: NONE, and nothing happens, if it has not so many, or n is below 0");
    refused("end", -1, LastLoads::end, MIN, -1, 22, 400, 401, MAX);
    due("1 of 0", new LastLoads().end(1), -1);
  }

  private static void net() {
    says("net: The TAPE, which is empty then, is the NET in place of the one there was: how many ROADS");
    LastLoads x = Rich.make();
    due("one", x.net(), 1);
    due("TAPE", x.count(10), 0);
    int[] counts = {7, 1, 0, 0, 0, 0, 2, 0, 0, 77, 0, 0};
    for (int what = 0; what < 12; what++) due("count " + what, x.count(what), counts[what]);
    due("no ROADS", net(x, "places 1"), 0);
    due("gone", x.road(0, 0), -1);
    due("16", net(x, "places 2" + ";road 0 1 1 0".repeat(16)), 16);

    says("net: (no DRIVES, nothing FOUND; the RULE IN FORCE and x stay)");
    LastLoads y = with("places 2;road 0 1 2 3;carter 0;load 3 0 1 0", "bar kind=9");
    y.seed(5);
    y.found(0, 3);
    y.take(0, 0);
    y.drive(0, 0);
    net(y, "places 2;road 0 1 2 3;carter 0;load 3 0 1 0");
    due("runs", y.road(0, 4), 0);
    due("all", y.count(5), 0);
    due("FOUND", y.count(8), 0);
    due("he stands", y.carter(0, 0), 0);
    due("he has none", y.carter(0, 1), -1);
    due("day", y.carter(0, 2), 0);
    due("lies", y.load(0, 1), 0);
    due("IN FORCE", y.count(7), 0);
    due("x", y.count(9), 5);

    says("net: -2 - its FAULT, and all stays");
    String[] faults = {"", "x", "places 11", "places 2;road 0 0 1 0", "places 3;road 0 1 1 1;carter 0;load 1 0 1 5;",
        "places 2;carter 1;carter 2"};
    int[] due = {-3, -3, -60, -132, -355, -204};
    LastLoads clean = Rich.make();
    clean.end(0);
    String stays = Rich.trace(clean);
    for (int i = 0; i < faults.length; i++) {
      LastLoads z = Rich.make();
      z.end(0);
      due("net " + faults[i], net(z, faults[i]), due[i]);
      due("all stays", Rich.trace(z).equals(stays), true);
    }
  }

  private static void rule() {
    says("rule: The TAPE, which is empty then, is a RULE: its number");
    LastLoads x = with("places 2;road 0 1 1 0;carter 0");
    for (int i = 0; i < 6; i++) {
      due("rule", rule(x, "bar all=" + i), i);
      due("TAPE", x.count(10), 0);
      due("RULES", x.count(6), i + 1);
    }
    due("none IN FORCE by it", x.count(7), -1);
    for (int i = 0; i < 6; i++) {
      x.force(i);
      due("barred", x.drive(0, 0), -5);
      x.force((i + 1) % 6);
      due("not barred", x.drive(0, 0), (i + 1) % 2);
    }

    says("rule: -2 - its FAULT");
    LastLoads y = new LastLoads();
    due("fault", rule(y, "bar 1=1;"), -3 - 64);
    due("no RULE", y.count(6), 0);
    due("the next", rule(y, "bar 1=1"), 0);

    says("rule: NONE, and nothing happens: there are 6");
    LastLoads z = six();
    due("a seventh", z.rule(), -1);
    due("all as it was", Rich.trace(z).equals(Rich.trace(six())), true);
  }

  private static LastLoads six() {
    LastLoads x = Rich.make();
    for (int i = 0; i < 4; i++) rule(emptied(x), "bar 1=2");
    Told.say(x, "bar 1=1");
    return x;
  }

  private static LastLoads emptied(LastLoads x) {
    x.end(0);
    return x;
  }

  private static void force() {
    says("force: A RULE is IN FORCE (NONE: none): which was");
    LastLoads x = Rich.make();
    due("1", x.force(1), 0);
    due("1 again", x.force(1), 1);
    due("none", x.force(-1), 1);
    due("none again", x.force(-1), -1);
    due("0", x.force(0), -1);

    says("force: -2, and nothing happens, if there is none such");
    refused("force", -2, LastLoads::force, MIN, -2, 2, 5, 6, MAX);
    due("none at all", new LastLoads().force(0), -2);
    due("none of none", new LastLoads().force(-1), -1);
  }

  private static void told() {
    says("road: NONE without these");
    refused("road", -1, (x, a) -> x.road(a, 0), MIN, -1, 4, 15, 16, MAX);
    refused("what", -1, (x, a) -> x.road(3, a), MIN, -1, 5, MAX);
    for (int r = 0; r < 4; r++) due("road " + r, Rich.make().road(r, 2), new int[] {2, 3, 9, 1}[r]);

    says("carter: NONE without these");
    refused("carter", -1, (x, a) -> x.carter(a, 0), MIN, -1, 3, 4, MAX);
    refused("what", -1, (x, a) -> x.carter(2, a), MIN, -1, 3, MAX);
    for (int w = 0; w < 3; w++) due("carter 2", Rich.make().carter(2, w), new int[] {2, -1, 1}[w]);
    for (int w = 0; w < 3; w++) due("carter 0", Rich.make().carter(0, w), new int[] {2, 0, 5}[w]);

    says("load: NONE without these");
    refused("load", -1, (x, a) -> x.load(a, 0), MIN, -1, 5, 7, 8, MAX);
    refused("what", -1, (x, a) -> x.load(4, a), MIN, -1, 5, MAX);
    for (int w = 0; w < 5; w++) due("load 0", Rich.make().load(0, w), new int[] {5, -1, 2, 9, 0}[w]);
    for (int w = 0; w < 5; w++) due("load 3", Rich.make().load(3, w), new int[] {1, 2, 2, 1, 1}[w]);
    for (int w = 0; w < 5; w++) due("load 4", Rich.make().load(4, w), new int[] {6, 2, 1, 8, 0}[w]);
  }

  private static void drive() {
    says("drive: below 0, and nothing happens: -2 less the LAW that is broken");
    nothingHappens("law 1", -3, x -> x.drive(0, 0));
    nothingHappens("law 2", -4, x -> x.drive(0, 3));
    nothingHappens("law 3", -5, x -> x.drive(1, 2));

    says("drive: NONE without these");
    refused("carter", -1, (x, a) -> x.drive(a, 3), MIN, -1, 3, 4, MAX);
    refused("road", -1, (x, a) -> x.drive(1, a), MIN, -1, 4, 16, MAX);

    says("drive: else -2 if his day would be above 9999");
    // no object is to be used for so many calls, but the sentence stands in the document
    LastLoads x = with("places 2;road 0 1 9 0;road 0 1 8 4;road 0 1 1 4;carter 0;carter 0", "bar road=1 and day>9990");
    for (int i = 0; i < 1110; i++) x.drive(0, 0);
    due("day", x.carter(0, 2), 9990);
    x.image(0);
    due("9999", x.drive(0, 0), 1);
    due("day", x.carter(0, 2), 9999);
    due("10000", x.drive(0, 2), -2);
    due("a LAW is first", x.drive(0, 1), -5);
    due("nothing happened", x.count(5), 1111);
    due("nothing happened", x.road(2, 4), 0);
    due("nothing happened", x.carter(0, 0), 1);
    due("nothing happened", x.carter(0, 2), 9999);
    due("another one's day", x.drive(1, 2), 1);
    x.back(0);
    due("9998", x.drive(0, 1), 1);
    due("10007", x.drive(0, 0), -2);
    due("9999", x.drive(0, 2), 0);
    due("10000", x.drive(0, 2), -2);
  }

  private static void takeAndLay() {
    says("take: false, and nothing happens, without these, if he has one, or it does not lie there");
    refused("carter", 0, (x, a) -> bit(x.take(a, 4)), MIN, -1, 3, 4, MAX);
    refused("load", 0, (x, a) -> bit(x.take(1, a)), MIN, -1, 5, 8, MAX);
    nothingHappens("he has one", 0, x -> bit(x.take(0, 4)));
    nothingHappens("the one he has", 0, x -> bit(x.take(0, 0)));
    nothingHappens("on another's cart", 0, x -> bit(x.take(1, 0)));
    nothingHappens("elsewhere", 0, x -> bit(x.take(1, 1)));
    LastLoads y = Rich.make();
    due("one that lies there", y.take(1, 4), true);
    due("one that is THERE", y.take(2, 3), true);

    says("lay: NONE, and nothing happens, without these (he has none)");
    refused("carter", -1, LastLoads::lay, MIN, -1, 3, 4, MAX);
    nothingHappens("he has none", -1, x -> x.lay(1));
    due("which", Rich.make().lay(0), 0);
  }

  private static final int[] NO_KIND = {MIN, -1, 0, 8, MAX};
  private static final int[] NO_PLACE = {MIN, -1, 4, 9, 10, MAX};

  private static void ways() {
    says("soonest: (the same PLACE: 0); -2: it can't be; NONE without these");
    for (int p = 0; p < 4; p++) due("same", with("places 4", "bar 1=1").soonest(1, p, p), 0);
    due("can't be", with("places 4").soonest(1, 0, 3), -2);
    for (int k = 1; k <= 7; k++) due("KIND " + k, Rich.make().soonest(k, 1, 2), k == 5 ? 3 : -2);
    refused("kind", -1, (x, a) -> x.soonest(a, 0, 1), NO_KIND);
    refused("from", -1, (x, a) -> x.soonest(1, a, 1), NO_PLACE);
    refused("to", -1, (x, a) -> x.soonest(1, 1, a), NO_PLACE);
    refused("same", -1, (x, a) -> x.soonest(1, a, a), NO_PLACE);
    refused("kind, the same PLACE", -1, (x, a) -> x.soonest(a, 1, 1), NO_KIND);

    says("way: its k-th ROAD (k 0 and above; -2: it has not so many, or can't be); NONE without these");
    due("0", Rich.make().way(5, 0, 2, 0), 0);
    due("1", Rich.make().way(5, 0, 2, 1), 1);
    refused("not so many", -2, (x, a) -> x.way(5, 0, 2, a), 2, 3, 10, MAX);
    refused("can't be", -2, (x, a) -> x.way(7, 0, 2, a), 0, 1, MAX);
    refused("same", -2, (x, a) -> x.way(5, 2, 2, a), 0, 1, MAX);
    refused("k", -1, (x, a) -> x.way(5, 0, 2, a), MIN, -2, -1);
    refused("k, can't be", -1, (x, a) -> x.way(7, 0, 2, a), MIN, -1);
    refused("kind", -1, (x, a) -> x.way(a, 0, 1, 0), NO_KIND);
    refused("from", -1, (x, a) -> x.way(1, a, 1, 0), NO_PLACE);
    refused("to", -1, (x, a) -> x.way(1, 1, a, 0), NO_PLACE);

    says("reached: NONE without these");
    refused("kind", -1, (x, a) -> x.reached(a, 0), NO_KIND);
    refused("from", -1, (x, a) -> x.reached(1, a), NO_PLACE);
    due("KIND 1", Rich.make().reached(1, 3), 12);
    due("KIND 7", Rich.make().reached(7, 3), 8);

    says("wiped: what 0: ROADS, 1: DAYS; -2: there is no WAY; NONE without these");
    due("ROADS", Rich.make().wiped(7, 0, 3, 0), 1);
    due("DAYS", Rich.make().wiped(7, 0, 3, 1), 10);
    due("ROADS", Rich.make().wiped(5, 0, 3, 0), 1);
    due("DAYS", Rich.make().wiped(5, 0, 3, 1), 6);
    for (int w = 0; w < 2; w++) due("no WAY", with("places 2").wiped(1, 0, 1, w), -2);
    for (int w = 0; w < 2; w++) due("the same PLACE", with("places 2").wiped(1, 1, 1, w), 0);
    refused("what", -1, (x, a) -> x.wiped(1, 0, 1, a), MIN, -1, 2, MAX);
    refused("kind", -1, (x, a) -> x.wiped(a, 0, 1, 0), NO_KIND);
    refused("from", -1, (x, a) -> x.wiped(1, a, 1, 0), NO_PLACE);
    refused("to", -1, (x, a) -> x.wiped(1, 1, a, 1), NO_PLACE);
    due("what, no WAY", with("places 2").wiped(1, 0, 1, 2), -1);
  }

  private static void plans() {
    says("plan: NONE without these: a CARTER (empty), a LOAD (not THERE, on no cart)");
    refused("carter", -1, (x, a) -> x.plan(a, 1), MIN, -1, 3, 4, MAX);
    refused("load", -1, (x, a) -> x.plan(1, a), MIN, -1, 5, 8, MAX);
    nothingHappens("not empty", -1, x -> x.plan(0, 1));
    nothingHappens("his own", -1, x -> x.plan(0, 0));
    nothingHappens("on a cart", -1, x -> x.plan(1, 0));
    nothingHappens("THERE", -1, x -> x.plan(1, 3));

    says("plan: -2: it can't be, -3: UNKNOWN");
    nothingHappens("can't be", -2, x -> x.plan(2, 4));
    LastLoads y = with("places 4" + ";road 0 1 1 5".repeat(12) + ";carter 0;load 4 2 3 1");
    due("unknown", y.plan(0, 0), -3);
    LastLoads z = with("places 2;road 0 1 1 5;carter 1;load 4 0 1 0");
    due("can be", z.plan(0, 0), 2);
    z.take(0, 0);
    due("elsewhere", z.plan(0, 0), 2);
  }

  private static void orders() {
    says("stuck: NONE without a NET");
    due("no LOADS", with("places 1").stuck(), 0);
    due("no NET", new LastLoads().stuck(), -1);

    says("order: 2 to 7: the LOAD at that place of the order (-2: it has not so many). NONE without these, or a NET");
    refused("what", -1, LastLoads::order, MIN, -1, 8, 9, MAX);
    for (int n = 0; n <= 8; n++) {
      LastLoads x = with("places 2;road 0 1 1 0" + ";load 1 0 1 1".repeat(n));
      due("WORTH", x.order(0), Math.min(n, 6));
      due("how many", x.order(1), Math.min(n, 6));
      for (int i = 0; i < 6; i++) due("place " + i + " of " + n, x.order(2 + i), i < n ? i : -2);
      due("a seventh place", x.order(8), -1);
    }

    says("dear: NONE without that ROAD");
    refused("road", -1, LastLoads::dear, MIN, -1, 4, 16, MAX);
    due("the 16th", with("places 2" + ";road 0 1 1 3".repeat(16) + ";load 1 0 1 7").dear(15), 7);

    says("better: NONE without these (less than two PLACES)");
    refused("days", -1, (x, a) -> x.better(a, 0), MIN, -1, 0, 10, MAX);
    refused("what", -1, (x, a) -> x.better(1, a), MIN, -1, 3, MAX);
    for (int w = 0; w < 3; w++) due("one PLACE", with("places 1").better(1, w), -1);
    for (int w = 0; w < 3; w++) due("two PLACES", with("places 2").better(9, w), new int[] {0, 1, 0}[w]);
  }

  private static void rows() {
    says("found: FOUND of a ROAD (NONE: not FOUND): true; false, and nothing happens, without these");
    LastLoads x = with("places 2" + ";road 0 1 1 3".repeat(16));
    for (int last = 0; last <= 7; last++) due("last " + last, x.found(15, last), true);
    due("so many", x.count(8), 1);
    due("another", x.found(0, 0), true);
    due("so many", x.count(8), 2);
    due("not FOUND", x.found(15, -1), true);
    due("so many", x.count(8), 1);
    due("not FOUND again", x.found(15, -1), true);
    due("so many", x.count(8), 1);
    refused("road", 0, (y, a) -> bit(y.found(a, 1)), MIN, -1, 4, 16, MAX);
    refused("last", 0, (y, a) -> bit(y.found(0, a)), MIN, -2, 8, MAX);

    says("drove: NONE without these (beyond n, too; no NET)");
    refused("n", -1, (y, a) -> y.drove(a, 0), MIN, -1, 0, 4, MAX);
    refused("what", -1, (y, a) -> y.drove(3, a), MIN, -1, 5, MAX);
    refused("beyond 1", -1, (y, a) -> y.drove(1, a), 2, 3);
    refused("beyond 2", -1, (y, a) -> y.drove(2, a), 3);
    LastLoads z = with("places 2;road 0 1 1 0;load 1 0 1 0;load 1 0 1 0;load 1 0 1 0");
    for (int n = 1; n <= 3; n++) for (int w = 1; w <= n; w++) due("the first", z.drove(n, w), w - 1);

    says("drove: (-2: there is none), (0 without a row)");
    LastLoads w = with("places 2");
    for (int n = 1; n <= 3; n++) {
      due("rows", w.drove(n, 0), 0);
      for (int i = 1; i <= n; i++) due("none", w.drove(n, i), -2);
      due("bits", w.drove(n, 4), 0);
    }
  }

  private static void draws() {
    says("seed: x becomes a number: what it was; NONE, and nothing happens, below 0");
    LastLoads x = new LastLoads();
    due("0 at first", x.seed(MAX), 0);
    due("most", x.seed(0), MAX);
    due("0", x.seed(1), 0);
    due("x", x.count(9), 1);
    refused("seed", -1, LastLoads::seed, MIN, -2, -1);

    says("weeks: NONE without these, or a NET");
    refused("m", -1, (y, a) -> y.weeks(a, 1, 0), MIN, -1, 0, 21, MAX);
    refused("n", -1, (y, a) -> y.weeks(1, a, 0), MIN, -1, 0, 31, MAX);
    refused("what", -1, (y, a) -> y.weeks(1, 1, a), MIN, -1, 2, MAX);
    due("m 20, n 30", Rich.make().weeks(20, 30, 1) >= 0, true);
  }

  private static void counts() {
    says("count: NONE for others");
    refused("count", -1, LastLoads::count, MIN, -1, 12, 13, MAX);
    int[] counts = {4, 4, 3, 5, 1, 5, 2, 0, 2, 77, 21, 1};
    for (int what = 0; what < 12; what++) due("count " + what, Rich.make().count(what), counts[what]);

    says("count: 11: ROADS whose LAST is 0");
    due("none", with("places 2" + ";road 0 1 1 7".repeat(16)).count(11), 0);
    due("all 16", with("places 2" + ";road 0 1 1 0".repeat(16)).count(11), 16);
    due("the first", with("places 2;road 0 1 1 0" + ";road 0 1 1 1".repeat(15)).count(11), 1);
    due("the last", with("places 2" + ";road 0 1 1 1".repeat(15) + ";road 0 1 1 0").count(11), 1);

    says("count: 4: LOADS that are THERE, 8: ROADS FOUND");
    LastLoads x = with("places 2" + ";road 0 1 1 0".repeat(16) + ";carter 0" + ";load 1 0 1 1".repeat(8));
    for (int i = 0; i < 8; i++) {
      due("THERE", x.count(4), i);
      x.take(0, 7 - i);
      x.drive(0, 0);
      x.lay(0);
      x.drive(0, 1);
    }
    due("all eight", x.count(4), 8);
    for (int i = 0; i < 16; i++) {
      due("FOUND", x.count(8), i);
      x.found(15 - i, i % 8);
    }
    due("all 16", x.count(8), 16);
  }

  private static void images() {
    says("image: An IMAGE is made: DRIVES in all; NONE without it");
    refused("image", -1, LastLoads::image, MIN, -1, 4, MAX);
    for (int k = 0; k < 4; k++) due("image " + k, Rich.make().image(k), 5);
    due("no DRIVES", new LastLoads().image(0), 0);

    says("back: All is as in an IMAGE (the RULE IN FORCE, too): DRIVES in all");
    LastLoads x = Rich.make();
    due("0", x.back(0), 3);
    due("DRIVES", x.count(5), 3);
    due("IN FORCE", x.count(7), 0);
    due("2", x.back(2), 0);
    due("IN FORCE", x.count(7), -1);
    due("RULES", x.count(6), 2);
    due("TAPE", x.count(10), 21);

    says("back: NONE, and nothing happens, if it was never made, or without it");
    refused("back", -1, LastLoads::back, MIN, -1, 1, 3, 4, MAX);
  }

  private static void asked() {
    says("By what is asked nothing changes");
    nothingHappens("soonest", 5, x -> x.soonest(5, 0, 2));
    nothingHappens("way", 1, x -> x.way(5, 0, 2, 1));
    nothingHappens("reached", 7, x -> x.reached(5, 0));
    nothingHappens("wiped", 1, x -> x.wiped(4, 1, 2, 0));
    nothingHappens("plan", -2, x -> x.plan(2, 1));
    nothingHappens("stuck", 22, x -> x.stuck());
    nothingHappens("order", 0, x -> x.order(0));
    nothingHappens("dear", 8, x -> x.dear(1));
    nothingHappens("better", 2, x -> x.better(1, 2));
    nothingHappens("drove", 0, x -> x.drove(3, 0));
    nothingHappens("weeks", 0, x -> x.weeks(20, 30, 0) * 0);
    nothingHappens("road", 1, x -> x.road(3, 3));
    nothingHappens("carter", 0, x -> x.carter(0, 1));
    nothingHappens("load", 1, x -> x.load(3, 4));
    nothingHappens("count", 21, x -> x.count(10));
    LastLoads y = with("places 2;road 0 1 1 5;carter 1;load 4 0 1 3;load 5 1 0 2");
    due("a plan that wipes and drives", y.plan(0, 0), 2);
    due("an order by which one goes", y.order(0), 2);
    due("what a wiped ROAD is worth", y.dear(0), 1);
    due("LAST", y.road(0, 3), 5);
    due("runs", y.road(0, 4), 0);
    due("all", y.count(5), 0);
    due("he stands", y.carter(0, 0), 1);
  }

  public static void main(String[] args) {
    calls();
    newObject();
    feed();
    end();
    net();
    rule();
    force();
    told();
    drive();
    takeAndLay();
    ways();
    plans();
    orders();
    rows();
    draws();
    counts();
    images();
    asked();
    finish();
  }
}
