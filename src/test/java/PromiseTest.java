/** For each promise of the document ordinary inputs, its edges and wrong inputs, with answers worked out by hand. */
public final class PromiseTest extends Check {
  private static final String FOUR =
      "places 4;road 0 1 2 0;road 1 2 3 5;road 0 2 9 0;road 2 3 1 4;carter 0;load 5 0 2 9;load 4 1 3 7;load 2 3 0 5";

  private static void newObject() {
    LastLoads x = new LastLoads();
    int[] counts = {0, 0, 0, 0, 0, 0, 0, -1, 0, 0, 0, 0};
    for (int i = 0; i < counts.length; i++) due("count " + i, x.count(i), counts[i]);
    due("road", x.road(0, 0), -1);
    due("carter", x.carter(0, 0), -1);
    due("load", x.load(0, 0), -1);
    due("drive", x.drive(0, 0), -1);
    due("take", x.take(0, 0), false);
    due("lay", x.lay(0), -1);
    due("soonest", x.soonest(1, 0, 0), -1);
    due("way", x.way(1, 0, 0, 0), -1);
    due("reached", x.reached(1, 0), -1);
    due("wiped", x.wiped(1, 0, 0, 0), -1);
    due("plan", x.plan(0, 0), -1);
    due("stuck", x.stuck(), -1);
    due("order", x.order(0), -1);
    due("dear", x.dear(0), -1);
    due("better", x.better(1, 0), -1);
    due("found", x.found(0, 0), false);
    due("drove", x.drove(1, 0), -1);
    due("weeks", x.weeks(1, 1, 0), -1);
    due("back", x.back(0), -1);
    due("force 0", x.force(0), -2);
    due("force none", x.force(-1), -1);
  }

  private static void feed() {
    LastLoads x = new LastLoads();
    for (int i = 1; i <= 20; i++) due("feed " + i, x.feed(0, 0, 0, 0, 0), 20 * i);
    due("feed 21", x.feed(0, 0, 0, 0, 0), -1);
    due("count", x.count(10), 400);
    x.end(381);
    due("feed on 381", x.feed(0, 0, 0, 0, 0), -1);
    x.end(380);
    due("feed on 380", x.feed(0, 0, 0, 0, 0), 400);
    LastLoads y = new LastLoads();
    // "places 2;road 0 1 1 " "7": the highest byte of each number comes first
    y.feed(1886151011, 1702043698, 997355361, 1679831072, 824193312);
    y.feed(0x37000000, 0, 0, 0, 0);
    y.end(21);
    due("net", y.net(), 1);
    due("last", y.road(0, 3), 7);
  }

  private static void end() {
    LastLoads x = new LastLoads();
    due("end 0", x.end(0), 0);
    due("end 1", x.end(1), -1);
    due("end -1", x.end(-1), -1);
    x.feed(1, 2, 3, 4, 5);
    due("end 21", x.end(21), -1);
    due("end min", x.end(Integer.MIN_VALUE), -1);
    due("count", x.count(10), 20);
    due("end 20", x.end(20), 20);
    due("end 7", x.end(7), 7);
    due("count", x.count(10), 7);
  }

  private static void nets() {
    LastLoads x = with(FOUR);
    due("count", x.count(10), 0);
    rule(x, "bar days>100");
    x.force(0);
    x.seed(9);
    x.found(0, 1);
    x.drive(0, 0);
    due("fault", net(x, "places 2;"), -3 - 72);
    due("tape behind a fault", x.count(10), 0);
    due("places stay", x.count(0), 4);
    due("drives stay", x.count(5), 1);
    due("found stays", x.count(8), 1);
    due("net", net(x, " places 3 ; carter 2;road 0 00002 9 7 ;load 7 1 0 99 "), 1);
    int[] counts = {3, 1, 1, 1, 0, 0, 1, 0, 0, 9, 0, 0};
    for (int i = 0; i < counts.length; i++) due("count " + i, x.count(i), counts[i]);
    due("net tight", net(x, "places2;road0 1 1 0"), 1);
    netFault("", 0, 0);
    netFault("   ", 3, 0);
    netFault("places", 6, 0);
    netFault("places ", 7, 0);
    netFault("places 0", 7, 1);
    netFault("places 11", 7, 1);
    netFault("places 000002", 7, 1);
    netFault("placess 2", 0, 0);
    netFault("Places 2", 0, 0);
    netFault("places 2\0", 8, 0);
    netFault("places 2 2", 9, 0);
    netFault("places 2;", 9, 0);
    netFault("places 2; ", 10, 0);
    netFault("road 0 1 1 0", 0, 4);
    netFault("roads 0 1 1 0", 0, 0);
    netFault("places 2; places 2", 10, 4);
    netFault("places 2;road 2 0 1 0", 14, 1);
    netFault("places 2;road 0 0 1 0", 16, 1);
    netFault("places 2;road 0 2 1 0", 16, 1);
    netFault("places 2;road 0 1 0 0", 18, 1);
    netFault("places 2;road 0 1 10 0", 18, 1);
    netFault("places 2;road 0 1 1 8", 20, 1);
    netFault("places 2;road 0 1 1", 19, 0);
    netFault("places 2;road 0 1 1;", 19, 0);
    netFault("places 2;road 0 1 1 0 0", 22, 0);
    netFault("places 2;carter 2", 16, 1);
    netFault("places 2;carter x", 16, 0);
    netFault("places 2;load 0 0 1 1", 14, 1);
    netFault("places 2;load 8 0 1 1", 14, 1);
    netFault("places 2;load 1 2 1 1", 16, 1);
    netFault("places 2;load 1 0 2 1", 18, 1);
    netFault("places 2;load 1 0 0 1", 18, 1);
    netFault("places 2;load 1 0 1 100", 20, 1);
    String roads = "places 2" + ";road 0 1 1 0".repeat(16);
    due("16 roads", net(x, roads), 16);
    netFault(roads + ";road 0 1 1 0", roads.length() + 1, 4);
    netFault(roads + ";rode 0 1 1 0", roads.length() + 1, 0);
    netFault("places 1" + ";carter 0".repeat(5), 45, 4);
    String loads = "places 2" + ";load 1 0 1 0".repeat(8);
    due("8 loads", net(x, loads), 0);
    netFault(loads + "; load", loads.length() + 2, 4);
  }

  private static void rules() {
    LastLoads x = new LastLoads();
    due("fault", rule(x, "bar"), -3 - 24);
    due("tape behind a fault", x.count(10), 0);
    for (int i = 0; i < 6; i++) due("rule " + i, rule(x, "bar all=0"), i);
    Told.say(x, "bar all=0");
    due("a seventh", x.rule(), -1);
    due("its tape stays", x.count(10), 9);
    due("rules", x.count(6), 6);
    ruleFault("", 0, 0);
    ruleFault("wipe", 4, 0);
    ruleFault("wipe 1", 6, 0);
    ruleFault("bars 1", 0, 0);
    ruleFault("bar x", 4, 0);
    ruleFault("bar all = 1;", 12, 0);
    ruleFault("bar all = 1]", 11, 0);
    ruleFault("bar [all = 1", 12, 0);
    ruleFault("bar [all] = 1", 8, 0);
    ruleFault("bar all < = 1", 10, 0);
    ruleFault("bar all => 1", 9, 0);
    ruleFault("bar all <> 1", 9, 0);
    ruleFault("bar 7/2=3 and [1-8]/2=3", 18, 0);
    ruleFault("bar all = 1 or", 14, 0);
    ruleFault("bar all = 1 xor all = 2", 12, 0);
    ruleFault("bar all = 1andall = 2", 11, 0);
    ruleFault("bar all = not 1", 10, 0);
    ruleFault("bar -1 = 1", 4, 0);
    ruleFault("bar 123456 = 1", 4, 1);
    ruleFault("bar all = 1 and 1 = 000001", 20, 1);
    ruleStands("bar 99999=00001and not all>=1or[day<=2];wipe to+from-runs*days/road>last-kind");
    ruleStands("bar " + "not ".repeat(10) + "all=1");
    ruleFault("bar " + "not ".repeat(11) + "all=1", 44, 2);
    ruleStands("bar " + "[".repeat(10) + "all=1" + "]".repeat(10));
    ruleFault("bar " + "[".repeat(11) + "all=1" + "]".repeat(11), 14, 2);
    ruleFault("bar " + "not[".repeat(5) + " not all=1", 25, 2);
    ruleStands("bar " + "[".repeat(10) + "all=1" + "]".repeat(10) + "or not[all=1]");
    // 57 + 1 + 1 + 1 are 60
    ruleStands("bar all" + "+1".repeat(57) + "=1");
    ruleFault("bar all" + "+1".repeat(57) + "=1+1", 7 + 114 + 3, 3);
    ruleFault("bar all" + "+1".repeat(59) + "=1", 7 + 118, 3);
    ruleFault("bar all" + "+1".repeat(59) + "+1", 7 + 119, 3);
    ruleFault("bar all" + "+1".repeat(59) + "+x", 7 + 119, 0);
    ruleFault("bar all" + "+1".repeat(59) + "+123456", 7 + 119, 1);
    String twelve = "bar 1=1" + ";wipe 1=1".repeat(11);
    ruleStands(twelve);
    ruleFault(twelve + "; bar 1=1", twelve.length() + 2, 4);
    ruleFault(twelve + "; bat 1=1", twelve.length() + 2, 0);
    ruleFault(twelve + ";", twelve.length() + 1, 0);
  }

  private static void force() {
    LastLoads x = with("places 2;road 0 1 2 0;carter 0");
    due("force 0 of none", x.force(0), -2);
    rule(x, "bar kind=0");
    rule(x, "bar kind=1");
    due("force 0", x.force(0), -1);
    due("barred", x.drive(0, 0), -5);
    due("force 1", x.force(1), 0);
    due("force 2", x.force(2), -2);
    due("force -2", x.force(-2), -2);
    due("count", x.count(7), 1);
    due("not barred", x.drive(0, 0), 1);
    due("force none", x.force(-1), 1);
    due("count", x.count(7), -1);
    holds("road=1 and days=7 and last=3 and kind=0 and from=2 and to=1 and runs=0 and all=0 and day=0", true);
    holds("0-7/2=0-3", true);
    holds("5/0=0 and 5/0*9=0", true);
    holds("2+3*4-6/2=11", true);
    holds("9-4-3=2 and 100/5/2=10", true);
    holds("1=2 and 1=1 or 1=1", true);
    holds("1=1 or 1=1 and 1=2", true);
    holds("[1=1 or 1=1] and 1=2", false);
    holds("1=1 or 1=2 or 1=2", true);
    holds("1=2 or 1=1 and 1=1 or 1=2 and 1=1", true);
    holds("1=1 and 1=2 or 1=2 or 1=2 and 1=1", false);
    holds("not 1=2 and 1=1", true);
    holds("not 1=1 or 1=1", true);
    holds("not [1=1 or 1=1]", false);
    holds("1<1 or 1>1 or 2<=1 or 1>=2", false);
    holds("1<=1 and 1>=1 and 1<2 and 2>1", true);
    holds("65536*65536*65536*32768<0", true);
    holds("65536*65536*65536*65536=0", true);
  }

  private static void road() {
    LastLoads x = with("places 4;road 3 1 9 7;road 0 2 1 0;carter 0");
    int[] first = {3, 1, 9, 7, 0};
    for (int i = 0; i < 5; i++) due("road 0 " + i, x.road(0, i), first[i]);
    x.drive(0, 1);
    x.drive(0, 1);
    due("runs", x.road(1, 4), 2);
    due("runs", x.road(0, 4), 0);
    due("no road", x.road(2, 0), -1);
    due("no road", x.road(-1, 0), -1);
    due("no what", x.road(0, 5), -1);
    due("no what", x.road(0, -1), -1);
  }

  private static void carter() {
    LastLoads x = with("places 2;road 1 0 4 0;carter 1;carter 0;load 3 0 1 8");
    due("place", x.carter(0, 0), 1);
    due("load", x.carter(0, 1), -1);
    due("day", x.carter(0, 2), 0);
    x.drive(0, 0);
    x.take(0, 0);
    due("place", x.carter(0, 0), 0);
    due("load", x.carter(0, 1), 0);
    due("day", x.carter(0, 2), 4);
    due("another's day", x.carter(1, 2), 0);
    due("no carter", x.carter(2, 0), -1);
    due("no carter", x.carter(-1, 0), -1);
    due("no what", x.carter(0, 3), -1);
    due("no what", x.carter(0, -1), -1);
  }

  private static void load() {
    LastLoads x = with("places 2;road 1 0 4 0;carter 0;load 3 0 1 8");
    int[] first = {3, 0, 1, 8, 0};
    for (int i = 0; i < 5; i++) due("load 0 " + i, x.load(0, i), first[i]);
    x.take(0, 0);
    due("on a cart", x.load(0, 1), -1);
    x.drive(0, 0);
    due("there on a cart", x.load(0, 4), 0);
    x.lay(0);
    due("lies", x.load(0, 1), 1);
    due("there", x.load(0, 4), 1);
    due("no load", x.load(1, 0), -1);
    due("no load", x.load(-1, 0), -1);
    due("no what", x.load(0, 5), -1);
    due("no what", x.load(0, -1), -1);
  }

  private static void drive() {
    LastLoads x = with("places 3;road 0 1 2 0;road 1 2 3 5;carter 0;load 4 0 2 1");
    due("law 1", x.drive(0, 1), -3);
    x.take(0, 0);
    due("with a load", x.drive(0, 0), 1);
    due("last", x.road(0, 3), 4);
    due("law 2", x.drive(0, 1), -4);
    due("nothing happened", x.carter(0, 2), 2);
    due("nothing happened", x.count(5), 1);
    x.lay(0);
    due("empty", x.drive(0, 1), 2);
    due("wiped without a rule", x.road(1, 3), 0);
    due("day", x.carter(0, 2), 5);
    due("no road", x.drive(0, 2), -1);
    due("no road", x.drive(0, -1), -1);
    due("no carter", x.drive(1, 0), -1);
    due("no carter", x.drive(-1, 0), -1);
    // a rule without a wipe that holds wipes nothing; LAST, runs and all count as ahead of the drive
    LastLoads y = with("places 2;road 0 1 2 6;carter 0;load 1 0 1 1");
    rule(y, "wipe runs=1 and all=1 and last=6 and day=2 and from=1;bar kind=1");
    y.force(0);
    due("first", y.drive(0, 0), 1);
    due("stays", y.road(0, 3), 6);
    due("second", y.drive(0, 0), 0);
    due("wiped", y.road(0, 3), 0);
    y.take(0, 0);
    due("law 3", y.drive(0, 0), -5);
    // law 2 is ahead of law 3
    LastLoads z = with("places 2;road 0 1 2 6;carter 0;load 1 0 1 1");
    rule(z, "bar 1=1");
    z.force(0);
    due("law 3", z.drive(0, 0), -5);
    z.take(0, 0);
    due("law 2 first", z.drive(0, 0), -4);
  }

  private static void take() {
    LastLoads x = with("places 2;road 0 1 2 0;carter 0;carter 0;load 4 0 1 1;load 4 1 0 1;load 2 0 1 1");
    due("elsewhere", x.take(0, 1), false);
    due("no load", x.take(0, 3), false);
    due("no load", x.take(0, -1), false);
    due("no carter", x.take(2, 0), false);
    due("no carter", x.take(-1, 0), false);
    due("takes", x.take(0, 0), true);
    due("has one", x.take(0, 2), false);
    due("on a cart", x.take(1, 0), false);
    x.drive(0, 0);
    x.lay(0);
    due("there, and again", x.take(0, 0), true);
  }

  private static void lay() {
    LastLoads x = with("places 2;road 0 1 2 0;carter 0;load 4 1 0 1;load 4 0 1 1");
    due("has none", x.lay(0), -1);
    due("no carter", x.lay(1), -1);
    due("no carter", x.lay(-1), -1);
    x.take(0, 1);
    due("lays", x.lay(0), 1);
    due("lies", x.load(1, 1), 0);
    due("has none", x.lay(0), -1);
  }

  private static void soonest() {
    LastLoads x = with(FOUR);
    due("5 from 0 to 2", x.soonest(5, 0, 2), 5);
    due("4 from 0 to 2", x.soonest(4, 0, 2), 9);
    due("4 from 1 to 3", x.soonest(4, 1, 3), 12);
    due("5 to 3", x.soonest(5, 0, 3), -2);
    due("same", x.soonest(7, 3, 3), 0);
    due("kind 0", x.soonest(0, 0, 1), -1);
    due("kind 8", x.soonest(8, 0, 1), -1);
    due("place 4", x.soonest(1, 0, 4), -1);
    due("place -1", x.soonest(1, -1, 0), -1);
    rule(x, "bar from=0 and to=1 and day=0 or all>0");
    x.force(0);
    due("barred one way", x.soonest(5, 0, 2), 9);
    due("not the other way", x.soonest(5, 2, 0), 5);
  }

  private static void way() {
    LastLoads x = with("places 4;road 2 3 1 0;road 0 2 4 0;road 0 1 2 0;road 1 2 2 0;road 0 1 2 0");
    // by 1 and 0 or by 2, 3 and 0: both take 5
    due("first", x.way(1, 0, 3, 0), 1);
    due("second", x.way(1, 0, 3, 1), 0);
    due("no third", x.way(1, 0, 3, 2), -2);
    due("same", x.way(1, 0, 0, 0), -2);
    due("k -1", x.way(1, 0, 3, -1), -1);
    due("kind 0", x.way(0, 0, 3, 0), -1);
    due("place 4", x.way(1, 0, 4, 0), -1);
    due("parallel", x.way(1, 1, 0, 0), 2);
    LastLoads y = with("places 2");
    due("can't be", y.way(1, 0, 1, 0), -2);
    due("can't be", y.way(1, 0, 1, Integer.MAX_VALUE), -2);
  }

  private static void reached() {
    LastLoads x = with(FOUR);
    due("5", x.reached(5, 0), 7);
    due("4", x.reached(4, 1), 15);
    due("1 from 3", x.reached(1, 3), 8);
    due("kind 0", x.reached(0, 0), -1);
    due("kind 8", x.reached(8, 0), -1);
    due("place", x.reached(1, 4), -1);
    rule(x, "bar road=0 and from=0;bar to=0");
    x.force(0);
    due("barred", x.reached(5, 0), 7);
    due("barred", x.reached(5, 1), 6);
  }

  private static void wiped() {
    LastLoads x = with("places 4;road 0 1 1 2;road 1 2 1 3;road 0 2 9 4;road 0 2 7 4");
    rule(x, "bar 1=1");
    x.force(0);
    due("roads", x.wiped(1, 0, 2, 0), 1);
    due("days", x.wiped(1, 0, 2, 1), 7);
    due("of its kind", x.wiped(2, 0, 2, 0), 1);
    due("days", x.wiped(2, 0, 2, 1), 2);
    due("none", x.wiped(4, 0, 2, 0), 0);
    due("none", x.wiped(4, 0, 2, 1), 7);
    due("no way", x.wiped(1, 0, 3, 0), -2);
    due("no way", x.wiped(1, 0, 3, 1), -2);
    due("same", x.wiped(1, 3, 3, 0), 0);
    due("what", x.wiped(1, 0, 2, 2), -1);
    due("what", x.wiped(1, 0, 2, -1), -1);
    due("kind", x.wiped(8, 0, 2, 0), -1);
    due("place", x.wiped(1, 0, 4, 0), -1);
  }

  private static void plan() {
    // he wipes the road from 1 to 2 by an empty run there and back, then brings the load from 0
    LastLoads x = with("places 3;road 0 1 2 0;road 1 2 3 5;carter 1;carter 1;load 4 0 2 1;load 4 2 1 1;load 4 0 1 1");
    due("wipes first", x.plan(0, 0), 3 + 3 + 2 + 2 + 3);
    due("wipes on the way", x.plan(0, 1), 6);
    due("takes at once", x.plan(0, 2), 4);
    due("no carter", x.plan(2, 0), -1);
    due("no load", x.plan(0, 3), -1);
    due("no load", x.plan(0, -1), -1);
    // a situation is gone through once, so that nobody drives to and fro till his day comes
    rule(x, "wipe day>=4");
    x.force(0);
    due("day 0", x.plan(0, 0), -2);
    x.drive(0, 0);
    x.drive(0, 0);
    due("day 4", x.plan(0, 0), 13);
    due("another's day 0", x.plan(1, 0), -2);
    rule(x, "bar days=3 and kind=4");
    x.force(1);
    due("can't be", x.plan(0, 0), -2);
    x.drive(0, 0);
    x.take(0, 2);
    due("not empty", x.plan(0, 0), -1);
    due("on a cart", x.plan(1, 2), -1);
    x.drive(0, 0);
    x.lay(0);
    due("there", x.plan(0, 2), -1);
    // 12 roads that may be wiped or not make more than 1000 situations
    LastLoads y = with("places 4" + ";road 0 1 1 5".repeat(12) + ";carter 0;load 4 2 3 1");
    due("unknown", y.plan(0, 0), -3);
    // just 1000 situations, and just 1001
    net(y, "places 6;road 3 1 3 0;road 3 2 1 1;road 2 0 3 2;road 2 0 3 1;road 0 1 1 2;road 0 2 3 0;road 3 1 3 1"
        + ";road 2 3 1 1;road 3 2 1 2;road 2 3 3 1;carter 0;load 2 4 5 1");
    due("1000", y.plan(0, 0), -2);
    net(y, "places 8;road 0 3 2 2;road 5 1 1 1;road 5 2 2 0;road 3 2 3 1;road 0 3 1 2;road 5 3 3 2;road 4 1 1 2"
        + ";road 4 0 1 1;road 4 3 1 0;carter 0;load 1 3 7 1");
    due("1001", y.plan(0, 0), -3);
    // without a road he goes nowhere
    LastLoads z = with("places 2;carter 0;load 4 0 1 1");
    due("no road", z.plan(0, 0), -2);
    // 7 roads: 2 places times 2 to the 7th are 256 situations
    LastLoads w = with("places 4" + ";road 0 1 1 5".repeat(7) + ";carter 0;load 4 2 3 1");
    due("not unknown", w.plan(0, 0), -2);
  }

  private static void stuck() {
    LastLoads x = with(FOUR);
    due("stuck", x.stuck(), 4);
    LastLoads y = with("places 2;road 0 1 1 3;carter 0;load 1 0 1 1;load 3 0 1 1;load 2 1 0 1");
    due("stuck", y.stuck(), 5);
    y.take(0, 0);
    due("on a cart", y.stuck(), 4);
    rule(y, "bar kind=3");
    y.force(0);
    due("barred", y.stuck(), 6);
    due("no loads", with("places 1").stuck(), 0);
  }

  private static void order() {
    // both want the one road; the load of more worth must go first
    LastLoads x = with("places 3;road 0 1 1 0;load 1 0 1 5;load 2 0 1 6;load 1 1 0 2;load 3 0 2 9");
    due("worth", x.order(0), 7);
    due("gone", x.order(1), 2);
    int[] best = {0, 1, 2, 3};
    for (int i = 0; i < 4; i++) due("at " + i, x.order(2 + i), best[i]);
    due("no fifth", x.order(6), -2);
    due("no sixth", x.order(7), -2);
    due("what", x.order(8), -1);
    due("what", x.order(-1), -1);
    LastLoads y = with("places 2;road 0 1 1 0;load 1 0 1 5;load 2 0 1 6");
    due("worth", y.order(0), 6);
    due("first", y.order(2), 1);
    due("second", y.order(3), 0);
    // runs and all grow as they go
    LastLoads z = with("places 2;road 0 1 1 0;load 1 0 1 5;load 1 0 1 6;load 1 0 1 7");
    rule(z, "bar runs=2 and all=2");
    z.force(0);
    due("worth", z.order(0), 13);
    due("first", z.order(2), 1);
    due("second", z.order(3), 2);
    due("third", z.order(4), 0);
    // six at most, the least ones
    LastLoads w = with("places 2;road 0 1 1 1" + ";load 1 0 1 1".repeat(6) + ";load 1 0 1 90");
    due("worth", w.order(0), 6);
    due("last", w.order(7), 5);
    due("no loads", with("places 1").order(0), 0);
    due("no loads", with("places 1").order(1), 0);
    due("no loads", with("places 1").order(2), -2);
  }

  private static void dear() {
    LastLoads x = with("places 2;road 0 1 1 3;load 1 0 1 5;load 2 0 1 6");
    due("dear", x.dear(0), 6);
    due("no road", x.dear(1), -1);
    due("no road", x.dear(-1), -1);
    due("nothing changed", x.road(0, 3), 3);
    LastLoads y = with("places 2;road 0 1 1 3;road 0 1 2 0;load 2 0 1 6");
    due("not dear", y.dear(0), 0);
    due("0 already", y.dear(1), 0);
    // wiped, the short road lures the first load away from its own, and in each order one of them is barred
    LastLoads z = with("places 2;road 0 1 1 3;road 0 1 2 1;load 1 0 1 6;load 3 0 1 5");
    rule(z, "bar all=1 and road=1");
    z.force(0);
    due("both go", z.order(0), 11);
    due("less goes", z.dear(0), -5);
  }

  private static void better() {
    LastLoads x = with("places 4;road 0 1 1 0;load 1 0 3 5;load 1 1 2 5");
    due("one", x.better(1, 0), 0);
    due("other", x.better(1, 1), 2);
    due("stuck", x.better(1, 2), 1);
    due("days 0", x.better(0, 0), -1);
    due("days 10", x.better(10, 0), -1);
    due("what", x.better(1, 3), -1);
    due("what", x.better(1, -1), -1);
    due("one place", with("places 1").better(1, 0), -1);
    LastLoads y = with("places 3" + ";road 0 1 1 0".repeat(16) + ";load 1 0 2 5");
    due("one", y.better(9, 0), 0);
    due("other", y.better(9, 1), 2);
    due("stuck", y.better(9, 2), 0);
    rule(y, "bar road=16 and from=0 and days=9 and last=0");
    y.force(0);
    due("the 17th is told", y.better(9, 0), 1);
    due("no more roads", y.count(1), 16);
    due("nothing helps", with("places 3;road 0 1 1 0").better(1, 1), 1);
  }

  private static void found() {
    LastLoads x = with("places 2;road 0 1 1 3;road 0 1 1 3");
    due("0", x.found(0, 0), true);
    due("7", x.found(1, 7), true);
    due("count", x.count(8), 2);
    due("8", x.found(1, 8), false);
    due("-2", x.found(1, -2), false);
    due("no road", x.found(2, 1), false);
    due("no road", x.found(-1, 1), false);
    due("not found", x.found(0, -1), true);
    due("count", x.count(8), 1);
  }

  private static void drove() {
    LastLoads x = with("places 3;road 0 1 1 0;road 1 2 1 0;load 1 0 1 5;load 2 1 2 5;load 1 2 0 5;load 3 0 1 1");
    due("of one, any", x.drove(1, 0), 4);
    x.found(0, 1);
    // 0; 2
    due("of one", x.drove(1, 0), 2);
    due("first", x.drove(1, 1), 0);
    due("in all", x.drove(1, 4), 0);
    x.found(1, 2);
    due("of one", x.drove(1, 0), 0);
    due("first", x.drove(1, 1), -2);
    due("in all", x.drove(1, 4), 0);
    // 0 1; 1 0
    due("of two", x.drove(2, 0), 2);
    due("first", x.drove(2, 1), 0);
    due("then", x.drove(2, 2), 1);
    due("in all", x.drove(2, 4), 3);
    due("beyond n", x.drove(2, 3), -1);
    due("of three", x.drove(3, 0), 0);
    due("first", x.drove(3, 3), -2);
    due("n 0", x.drove(0, 0), -1);
    due("n 4", x.drove(4, 0), -1);
    due("what", x.drove(1, 5), -1);
    due("what", x.drove(1, -1), -1);
    due("nothing happened", x.road(0, 3), 0);
    LastLoads y = with("places 2;road 0 1 1 0" + ";load 1 0 1 1".repeat(8));
    due("all eight", y.drove(3, 0), 8 * 7 * 6);
  }

  private static void seed() {
    LastLoads x = new LastLoads();
    due("first", x.seed(5), 0);
    due("below 0", x.seed(-1), -1);
    due("most", x.seed(2147483647), 5);
    due("count", x.count(9), 2147483647);
  }

  private static void weeks() {
    // x 0: 12345, 1406932606, 654583775: draws 0, 21468, 9988: kind 1, from 0, to 0 of two places
    LastLoads x = with("places 2;road 0 1 4 1");
    due("like places", x.weeks(1, 1, 0), 0);
    LastLoads y = with("places 3;road 0 1 4 1");
    // of three places: 21468 is 0, 9988 is 1 of 3
    due("goes", y.weeks(1, 1, 0), 1);
    due("days", y.weeks(1, 1, 1), 4);
    due("x as it was", y.count(9), 0);
    due("nothing stays", y.count(5), 0);
    y.seed(2147483647);
    due("the greatest x", y.weeks(20, 30, 0) >= 0, true);
    due("m 0", y.weeks(0, 1, 0), -1);
    due("m 21", y.weeks(21, 1, 0), -1);
    due("n 0", y.weeks(1, 0, 0), -1);
    due("n 31", y.weeks(1, 31, 0), -1);
    due("what", y.weeks(1, 1, 2), -1);
    due("what", y.weeks(1, 1, -1), -1);
    // with a fresh road each week begins anew, and the draws go on
    LastLoads z = with("places 2;road 0 1 4 0");
    rule(z, "bar runs>0");
    z.force(0);
    due("one a week", z.weeks(20, 30, 0), 20);
    due("four days each", z.weeks(20, 30, 1), 80);
  }

  private static void count() {
    LastLoads x = with(FOUR);
    x.take(0, 0);
    x.drive(0, 0);
    x.lay(0);
    x.drive(0, 1);
    x.found(2, 7);
    x.seed(77);
    rule(x, "bar all=0");
    x.force(0);
    x.feed(0, 0, 0, 0, 0);
    int[] counts = {4, 4, 1, 3, 0, 2, 1, 0, 1, 77, 20, 2};
    for (int i = 0; i < counts.length; i++) due("count " + i, x.count(i), counts[i]);
    due("12", x.count(12), -1);
    due("-1", x.count(-1), -1);
    LastLoads y = with("places 2;road 0 1 1 0;carter 0;load 1 0 1 1");
    y.take(0, 0);
    y.drive(0, 0);
    due("on a cart", y.count(4), 0);
    y.lay(0);
    due("there", y.count(4), 1);
  }

  private static void images() {
    LastLoads x = new LastLoads();
    due("no net yet", x.image(3), 0);
    net(x, FOUR);
    x.seed(8);
    x.found(1, 2);
    rule(x, "bar 1=2");
    x.force(0);
    x.take(0, 0);
    x.drive(0, 0);
    due("image", x.image(0), 1);
    due("image 4", x.image(4), -1);
    due("image -1", x.image(-1), -1);
    due("never made", x.back(1), -1);
    due("back 4", x.back(4), -1);
    due("back -1", x.back(-1), -1);
    x.drive(0, 0);
    x.lay(0);
    x.seed(9);
    x.force(-1);
    x.found(1, -1);
    rule(x, "bar 1=3");
    x.feed(0, 0, 0, 0, 0);
    due("back", x.back(0), 1);
    due("place", x.carter(0, 0), 1);
    due("load", x.carter(0, 1), 0);
    due("day", x.carter(0, 2), 2);
    due("lies", x.load(0, 1), -1);
    due("runs", x.road(0, 4), 1);
    due("last", x.road(0, 3), 5);
    due("rules stay", x.count(6), 2);
    due("in force", x.count(7), 0);
    due("found", x.count(8), 1);
    due("x", x.count(9), 8);
    due("the tape stays", x.count(10), 20);
    x.drive(0, 0);
    due("back again", x.back(0), 1);
    due("back to nothing", x.back(3), 0);
    due("no net", x.count(0), 0);
    due("none in force", x.count(7), -1);
    due("no net", x.stuck(), -1);
  }

  public static void main(String[] args) {
    Runnable[] promises = {
      PromiseTest::newObject, PromiseTest::feed, PromiseTest::end, PromiseTest::nets, PromiseTest::rules,
      PromiseTest::force, PromiseTest::road, PromiseTest::carter, PromiseTest::load, PromiseTest::drive,
      PromiseTest::take, PromiseTest::lay, PromiseTest::soonest, PromiseTest::way, PromiseTest::reached,
      PromiseTest::wiped, PromiseTest::plan, PromiseTest::stuck, PromiseTest::order, PromiseTest::dear,
      PromiseTest::better, PromiseTest::found, PromiseTest::drove, PromiseTest::seed, PromiseTest::weeks,
      PromiseTest::count, PromiseTest::images, PromiseTest::images};
    for (int i = 0; i < promises.length; i++) {
      says("promise " + (i + 1));
      promises[i].run();
    }
    due("NONE", LastLoads.NONE, -1);
    finish();
  }
}
