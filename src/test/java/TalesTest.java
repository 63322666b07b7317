import java.math.BigInteger;

/** Each sentence of "Terms", parts II and III, that names a boundary, with answers worked out by hand. */
public final class TalesTest extends Check {
  /** Ten PLACES in a line, each ROAD of so many DAYS and such a LAST. */
  private static String line(int days, int last) {
    StringBuilder s = new StringBuilder("places 10");
    for (int p = 0; p < 9; p++) s.append(";road " + p + " " + (p + 1) + " " + days + " " + last);
    return s.toString();
  }

  private static void laws() {
    says("LAW 1 it begins there");
    LastLoads x = with("places 3;road 0 1 2 0;road 2 1 3 0;carter 1");
    due("from the second", x.drive(0, 0), 0);
    due("elsewhere", x.drive(0, 1), -3);
    due("from the first", x.drive(0, 0), 1);
    due("from the second", x.drive(0, 1), 2);
    due("elsewhere", x.drive(0, 0), -3);
    due("from the first", x.drive(0, 1), 1);

    says("LAW 2 empty, or its LAST is 0, or the same KIND");
    LastLoads y = with("places 2;road 0 1 1 0;road 0 1 1 3;road 0 1 1 4;carter 0;load 3 0 1 0", "wipe 1=2");
    due("empty", y.drive(0, 2), 1);
    due("empty", y.drive(0, 1), 0);
    y.take(0, 0);
    due("another KIND", y.drive(0, 2), -4);
    due("the same KIND", y.drive(0, 1), 1);
    due("LAST 0", y.drive(0, 0), 0);
    due("the same KIND by now", y.drive(0, 0), 1);

    says("LAW 3 no bar TEST of the RULE IN FORCE holds");
    LastLoads z = with("places 2;road 0 1 1 0;carter 0", "bar 1=2;wipe 1=1;bar from=1");
    rule(z, "bar 1=1");
    due("none holds", z.drive(0, 0), 1);
    due("the second holds", z.drive(0, 0), -5);
    z.force(1);
    due("the other RULE", z.drive(0, 0), -5);
    z.force(-1);
    due("no RULE", z.drive(0, 0), 0);

    says("LAWS, the first that is broken");
    LastLoads w = with("places 3;road 0 1 1 5;carter 2;carter 0;load 4 2 0 1;load 4 0 1 1", "bar 1=1");
    due("1 and 3", w.drive(0, 0), -3);
    w.take(0, 0);
    due("1, 2 and 3", w.drive(0, 0), -3);
    due("3", w.drive(1, 0), -5);
    w.take(1, 1);
    due("2 and 3", w.drive(1, 0), -4);
    w.force(-1);
    due("2", w.drive(1, 0), -4);
    w.lay(1);
    due("no LAW", w.drive(1, 0), 1);
  }

  private static void lasts() {
    says("Then LAST becomes the KIND; empty it stays, but is 0 if some wipe TEST of the RULE IN FORCE holds");
    LastLoads x = with("places 2;road 0 1 1 0;carter 0;load 7 0 1 0", "wipe runs=9;wipe runs=1 or runs=3");
    x.take(0, 0);
    x.drive(0, 0);
    due("the KIND", x.road(0, 3), 7);
    x.drive(0, 0);
    due("the KIND, though a wipe TEST holds", x.road(0, 3), 7);
    x.lay(0);
    x.drive(0, 0);
    due("empty it stays", x.road(0, 3), 7);
    x.drive(0, 0);
    due("empty, and the second wipe TEST holds", x.road(0, 3), 0);
    x.drive(0, 0);
    due("0 stays 0", x.road(0, 3), 0);
    LastLoads y = with("places 2;road 0 1 1 6;carter 0", "bar 1=2");
    y.drive(0, 0);
    due("no wipe TEST", y.road(0, 3), 6);

    says("(as ahead of the DRIVE)");
    String first = "wipe last=6 and runs=0 and all=0 and day=0 and from=0 and to=1 and kind=0";
    LastLoads z = with("places 2;road 0 1 4 6;carter 0", first);
    z.drive(0, 0);
    due("wiped", z.road(0, 3), 0);
    LastLoads w = with("places 2;road 0 1 4 6;carter 0", "wipe last=0 or runs=1 or all=1 or day=4 or from=1");
    w.drive(0, 0);
    due("not wiped", w.road(0, 3), 6);

    says("Without a RULE IN FORCE nothing is barred, and each empty DRIVE wipes");
    LastLoads v = with("places 2;road 0 1 1 6;road 0 1 1 6;carter 0;load 6 1 0 0", "bar 1=1");
    due("barred", v.drive(0, 0), -5);
    due("which was", v.force(-1), 0);
    due("not barred", v.drive(0, 0), 1);
    due("wiped", v.road(0, 3), 0);
    due("another ROAD", v.road(1, 3), 6);
    v.take(0, 0);
    v.drive(0, 1);
    due("not wiped with a LOAD", v.road(1, 3), 6);
  }

  private static void byHand() {
    says("BY HAND a CARTER DRIVES (his day grows by DAYS)");
    LastLoads x = with("places 3;road 0 1 1 0;road 1 2 9 0;carter 0;carter 2;load 1 0 1 0;load 1 1 2 0");
    x.drive(0, 0);
    due("1", x.carter(0, 2), 1);
    x.drive(0, 1);
    due("1 and 9", x.carter(0, 2), 10);
    due("the other one's", x.carter(1, 2), 0);

    says("takes a LOAD that lies where he is, if he is empty, or lays his down where he is");
    due("elsewhere", x.take(0, 0), false);
    due("none to lay", x.lay(0), -1);
    x.drive(0, 1);
    due("here", x.take(0, 1), true);
    due("where it lies", x.load(1, 1), -1);
    x.drive(0, 0);
    due("not empty", x.take(0, 0), false);
    due("lays", x.lay(0), 1);
    due("where he is", x.load(1, 1), 0);
    due("another one then", x.take(0, 0), true);

    says("A LOAD is THERE when it lies at its end (not on a cart)");
    LastLoads y = with("places 2;road 0 1 1 0;carter 0;load 1 0 1 0");
    due("not yet", y.load(0, 4), 0);
    y.take(0, 0);
    y.drive(0, 0);
    due("on a cart at its end", y.load(0, 4), 0);
    due("so many", y.count(4), 0);
    y.lay(0);
    due("there", y.load(0, 4), 1);
    due("so many", y.count(4), 1);
    y.take(0, 0);
    due("on a cart again", y.load(0, 4), 0);
  }

  private static void words() {
    says("runs and all are as now, and grow by DRIVES of that tale");
    String net = "places 3;road 0 1 1 0;road 1 2 1 0;carter 0;load 1 0 2 5;load 1 0 2 6;load 1 0 2 7";
    LastLoads x = with(net, "bar all>=3");
    due("as now", x.soonest(1, 0, 2), 2);
    // the first LOAD begins with 0 DRIVES, the second with 2, the third with 4
    due("two go", x.order(0), 13);
    due("first", x.order(2), 1);
    due("second", x.order(3), 2);
    due("third", x.order(4), 0);
    due("no row of three", x.drove(3, 0), 0);
    due("rows of two", x.drove(2, 0), 6);
    x.drive(0, 0);
    x.drive(0, 0);
    due("as now", x.soonest(1, 0, 2), 2);
    due("one goes", x.order(0), 7);
    due("first", x.order(2), 2);
    x.drive(0, 0);
    due("as now", x.soonest(1, 0, 2), -2);
    due("stuck", x.stuck(), 7);
    LastLoads y = with(net, "bar runs>=2 and road=1");
    due("runs of that ROAD", y.order(0), 13);

    says("day is 0, but in a PLAN");
    LastLoads z = with("places 2;road 0 1 3 0;carter 0;load 1 0 1 5", "bar day>0");
    rule(z, "bar day=0");
    z.drive(0, 0);
    due("by hand it is his", z.drive(0, 0), -5);
    due("soonest", z.soonest(1, 0, 1), 3);
    due("reached", z.reached(1, 0), 3);
    due("stuck", z.stuck(), 0);
    due("order", z.order(1), 1);
    due("drove", z.drove(1, 0), 1);
    due("better", z.better(1, 2), 0);
    due("plan", z.plan(0, 0), -2);
    z.force(1);
    due("soonest", z.soonest(1, 0, 1), -2);
    due("stuck", z.stuck(), 1);
    due("order", z.order(1), 0);
    due("drove", z.drove(1, 0), 0);
    due("better", z.better(1, 2), 1);
    due("plan", z.plan(0, 0), 6);
    LastLoads w = with("places 2;road 0 1 3 0;load 1 0 1 5;load 1 1 0 5", "bar not day=0");
    due("from the first", w.soonest(1, 0, 1), 3);
    due("from the second", w.soonest(1, 1, 0), 3);
    due("neither is stuck", w.stuck(), 0);
  }

  /** A line of ten PLACES whose ROADS are told from the greater PLACE or not, the last of them first or not. */
  private static void tenPlaces(boolean turned, boolean lastFirst) {
    StringBuilder s = new StringBuilder("places 10");
    for (int i = 0; i < 9; i++) {
      int p = lastFirst ? 8 - i : i;
      s.append(";road " + (turned ? p + 1 + " " + p : p + " " + (p + 1)) + " " + (p + 1) + " 0");
    }
    LastLoads x = with(s.toString());
    due("up", x.soonest(7, 0, 9), 45);
    due("down", x.soonest(7, 9, 0), 45);
    for (int k = 0; k < 9; k++) {
      due("up " + k, x.way(7, 0, 9, k), lastFirst ? 8 - k : k);
      due("down " + k, x.way(7, 9, 0, k), lastFirst ? k : 8 - k);
    }
    due("no tenth up", x.way(7, 0, 9, 9), -2);
    due("no tenth down", x.way(7, 9, 0, 9), -2);
    due("from the first", x.reached(7, 0), 1023);
    due("from the last", x.reached(7, 9), 1023);
    due("days up", x.wiped(7, 0, 9, 1), 45);
    due("days down", x.wiped(7, 9, 0, 1), 45);
  }

  private static void ways() {
    says("each DRIVE as if it were the first: LAST, runs and all as now");
    LastLoads x = with(line(9, 0), "bar all>0;bar runs>0");
    due("nine ROADS", x.soonest(7, 0, 9), 81);
    due("the last of them", x.way(7, 0, 9, 8), 8);
    due("no tenth", x.way(7, 0, 9, 9), -2);

    says("the WAY: at each PLACE the least ROAD by which it is still so");
    LastLoads y = with("places 3;road 0 1 5 0;road 0 1 4 0;road 0 1 4 0;road 1 2 1 0;road 0 2 5 0");
    due("days", y.soonest(1, 0, 2), 5);
    due("not the least of all", y.way(1, 0, 2, 0), 1);
    due("then", y.way(1, 0, 2, 1), 3);
    due("back", y.way(1, 2, 0, 0), 3);
    due("then", y.way(1, 2, 0, 1), 1);

    LastLoads u = with("places 3;road 1 0 1 0;road 0 1 1 0;road 1 2 1 0", "bar to<from;bar road=0 and to=1");
    due("days one way", u.soonest(1, 0, 2), 2);
    due("not the least, which is barred that way", u.way(1, 0, 2, 0), 1);
    due("then", u.way(1, 0, 2, 1), 2);
    due("barred the other way", u.way(1, 2, 0, 0), -2);
    LastLoads t = with("places 2;road 0 1 1 0;road 1 0 1 0", "bar road=0 and from=1;bar road=1 and from=0");
    due("there", t.way(1, 0, 1, 0), 0);
    due("and back", t.way(1, 1, 0, 0), 1);

    says("SOONEST, WAY and REACHED over all ten PLACES, however the ROADS are told");
    for (boolean turned : new boolean[] {false, true}) {
      for (boolean last : new boolean[] {false, true}) tenPlaces(turned, last);
    }

    says("REACHED: PLACES to which one can come so (as bits, the first, too)");
    due("all ten", with(line(1, 7)).reached(7, 9), 1023);
    due("the last alone", with("places 10").reached(1, 9), 512);
    due("the first alone", with("places 1").reached(1, 0), 1);
    LastLoads z = with(line(1, 7), "bar to<from");
    due("up alone", z.reached(7, 0), 1023);
    due("up alone", z.reached(7, 5), 992);
    due("up alone", z.reached(7, 9), 512);
    due("another KIND", z.reached(6, 0), 1);

    says("WIPED: the fewest ROADS of a WAY whose LAST would have to be 0 first, of such the fewest DAYS");
    due("nine", with(line(9, 2)).wiped(1, 0, 9, 0), 9);
    due("their days", with(line(9, 2)).wiped(1, 0, 9, 1), 81);
    LastLoads w = with(line(9, 0) + ";road 0 9 1 2");
    due("none", w.wiped(1, 0, 9, 0), 0);
    due("rather 81 days", w.wiped(1, 0, 9, 1), 81);
    due("of that KIND", w.wiped(2, 0, 9, 0), 0);
    due("one day", w.wiped(2, 0, 9, 1), 1);
    LastLoads v = with("places 3;road 0 1 1 2;road 1 2 1 0;road 0 2 3 2;road 0 1 1 2");
    due("one", v.wiped(1, 0, 2, 0), 1);
    due("of such the fewest", v.wiped(1, 0, 2, 1), 2);

    says("(law 3 not asked)");
    due("barred", with(line(1, 0), "bar 1=1").wiped(1, 0, 9, 1), 9);
    due("barred back", with(line(1, 0), "bar 1=1").wiped(1, 9, 0, 1), 9);
    due("and wiped", with(line(2, 5), "bar 1=1").wiped(1, 9, 0, 0), 9);
  }

  private static void plans() {
    says("DRIVES empty to it and beside");
    due("beside", with("places 3;road 0 1 2 0;road 1 2 3 5;carter 1;load 4 0 2 1").plan(0, 0), 3 + 3 + 2 + 2 + 3);

    says("lays it down nowhere else");
    due("wiping later", with("places 3;road 0 1 1 4;road 1 2 1 5;carter 0;load 4 0 2 0").plan(0, 0), -2);

    says("he takes the LOAD as soon as he is where it lies (that is no step of its own)");
    due("at once", with("places 2;road 0 1 1 4;carter 0;load 4 0 1 0").plan(0, 0), 1);
    due("no wiping first", with("places 2;road 0 1 1 5;carter 0;load 4 0 1 0").plan(0, 0), -2);
    due("passing by", with("places 3;road 0 1 1 0;road 1 2 1 5;carter 0;load 4 1 2 0").plan(0, 0), -2);
    due("round", with("places 3;road 0 1 1 0;road 1 2 1 5;road 0 2 9 5;carter 0;load 4 1 2 0").plan(0, 0), 11);

    says("in each all is asked as if no DRIVE had been, but day, which is his and DAYS so far");
    LastLoads x = with("places 4;road 0 1 1 0;road 1 2 1 0;road 2 3 1 0;carter 0;carter 0;load 4 1 3 0", "bar all>0");
    due("no DRIVE", x.plan(0, 0), 3);
    rule(x, "bar road=2 and day>2");
    rule(x, "bar road=2 and day>1");
    rule(x, "bar runs>0");
    x.force(1);
    due("day 2 at the third ROAD", x.plan(0, 0), 3);
    x.force(2);
    due("barred there", x.plan(0, 0), -2);
    x.force(1);
    x.drive(0, 0);
    x.drive(0, 0);
    due("day 4 there", x.plan(0, 0), -2);
    due("another one's day 2", x.plan(1, 0), 3);
    x.force(0);
    due("two DRIVES by hand", x.plan(1, 0), -2);
    x.force(3);
    due("two on the first ROAD", x.plan(1, 0), -2);

    says("SITUATIONS (where he is, whether he has it, LAST of all ROADS): ten PLACES, 16 ROADS, LAST 0 to 7");
    // as above, between the last PLACES: he wipes the ROAD first, by an empty run there and back
    due("PLACES 7 to 9", with("places 10;road 8 9 2 0;road 9 7 3 5;carter 9;load 4 8 7 1").plan(0, 0), 13);
    String sixteen = "places 5;road 0 1 2 0" + ";road 3 4 1 7".repeat(14) + ";road 1 2 3 ";
    for (int last = 0; last <= 7; last++) {
      String net = sixteen + last + ";carter 1;load 7 0 2 1;load 1 0 2 1";
      due("KIND 7 behind " + last, with(net).plan(0, 0), last == 0 || last == 7 ? 7 : 13);
      due("KIND 1 behind " + last, with(net).plan(0, 1), last < 2 ? 7 : 13);
    }

    says("is had with fewer DAYS now");
    due("round", with("places 3;road 0 1 9 4;road 0 2 1 4;road 2 1 1 4;carter 0;load 4 0 1 0").plan(0, 0), 2);
  }

  /**
   * A line of PLACES 0 to 7, with seven dirty ROADS beside its ends in turn. The first of these can be wiped when he
   * has come to the far end, the second when he is back again, and so on; only behind all is the LOAD's ROAD open:
   * 8 times 63 DAYS, 9 and 9 to the LOAD and back, as much again with it, as no ROAD of the seven is open sooner,
   * and 9 to its end.
   */
  private static void farPlan() {
    says("PLAN: the fewest DAYS, be they over 1000");
    StringBuilder s = new StringBuilder("places 10");
    for (int p = 0; p < 7; p++) s.append(";road " + p + " " + (p + 1) + " 9 1");
    s.append(";road 0 8 9 1;road 0 9 9 1");
    for (int i = 0; i < 7; i++) s.append(i % 2 == 0 ? ";road 6 7 9 5" : ";road 0 1 9 5");
    s.append(";carter 0;load 1 8 9 0");
    String wipe = "wipe road>8 and day>=63*road-504";
    String bars = ";bar road=7 and day<504;bar kind>0 and road>8 and day<18+63*road;bar road=8 and day<";
    due("far", with(s.toString(), wipe + bars + "1026").plan(0, 0), 504 + 18 + 504 + 9);
    due("a day too far", with(s.toString(), wipe + bars + "1027").plan(0, 0), -2);
  }

  /** Places in the row of SITUATIONS show where a 1001st comes just behind or just ahead of the goal. */
  private static void situations() {
    says("1000 at most: if one more would come, it is UNKNOWN");
    // A line of which the LOAD can't be reached. Behind its link of no dirty ROAD and links of 3 and 3, each wiped or
    // not, there are 57 ways to be, and 162 to stand there; with 2 dirty ROADS ahead of these and one link more
    // 1 + 3 * 57 + 3 * (57 + 57 + 162) = 1000; with that link first 2 * (1 + 3 * 57) + 3 * (57 + 162) = 1001.
    String three = ";road 3 4 1 5".repeat(3) + ";road 4 5 1 5".repeat(3) + ";carter 0;load 1 6 0 0";
    due("1000", with("places 7;road 0 1 1 5;road 0 1 1 5;road 1 2 1 0;road 2 3 1 0" + three).plan(0, 0), -2);
    due("1001", with("places 7;road 0 1 1 0;road 1 2 1 5;road 1 2 1 5;road 2 3 1 0" + three).plan(0, 0), -3);

    says("always the one with the fewest DAYS, of several the one that came first");
    due("ahead", with("places 4;road 1 3 3 3;road 1 0 3 3;road 0 1 3 3;road 0 2 1 1;road 1 2 1 2;road 0 1 1 3"
        + ";road 3 1 3 1;road 1 0 1 1;carter 0;load 2 2 3 1").plan(0, 0), 12);
    due("behind", with("places 5;road 2 1 1 1;road 3 2 3 1;road 0 3 1 0;road 1 0 1 1;road 1 0 2 1;road 2 1 1 2"
        + ";road 1 2 2 1;road 2 3 3 2;road 3 4 3 1;road 2 0 1 1;carter 0;load 1 4 2 1").plan(0, 0), -3);

    says("had with fewer DAYS now keeps its place");
    due("ahead", with("places 6;road 4 5 3 1;road 4 0 1 1;road 4 1 2 2;road 4 3 2 1;road 0 3 1 2;road 0 3 2 0"
        + ";road 4 5 1 1;road 0 1 2 1;road 2 1 1 0;road 4 0 2 2;road 1 3 2 1;carter 0;load 1 2 5 1").plan(0, 0), 8);
  }

  private static void orders() {
    says("STUCK: LOADS that are not THERE and on no cart that can't go (as bits)");
    LastLoads x = with("places 3;road 0 1 1 5;carter 0" + ";load 4 0 1 0".repeat(7) + ";load 4 1 2 0");
    due("all eight", x.stuck(), 255);
    x.take(0, 0);
    due("on a cart", x.stuck(), 254);
    x.lay(0);
    due("laid down", x.stuck(), 255);
    LastLoads y = with("places 3;road 0 1 1 0;carter 0;load 4 0 1 0;load 5 1 0 0");
    y.take(0, 0);
    y.drive(0, 0);
    y.lay(0);
    due("THERE, and the other one stuck by it", y.stuck(), 2);

    says("GOES: an order of LOADS (6 at most of these, the least ones)");
    LastLoads z = with("places 2;road 0 1 1 1;carter 0" + ";load 1 0 1 1".repeat(6) + ";load 1 0 1 50;load 1 0 1 90");
    due("worth", z.order(0), 6);
    for (int i = 0; i < 6; i++) due("place " + i, z.order(2 + i), i);
    z.take(0, 0);
    due("the seventh comes in", z.order(0), 55);
    for (int i = 0; i < 6; i++) due("place " + i, z.order(2 + i), i + 1);
    z.drive(0, 0);
    z.lay(0);
    due("THERE", z.order(0), 55);
    z.drive(0, 0);
    z.take(0, 1);
    due("the eighth comes in", z.order(0), 144);
    due("the last place", z.order(7), 7);

    says("each goes by SOONEST from where it lies to its end, if it can, by its WAY, by which LAST is changed");
    // 0 takes the short ROAD, which 1 and 2 want; 3 is stuck and hinders none
    LastLoads w = with("places 3;road 0 1 1 0;road 0 1 2 1;load 1 0 1 9;load 2 0 1 8;load 2 0 1 7;load 3 1 2 99");
    due("0, then none of the others", w.drove(2, 0), 4);
    due("worth", w.order(0), 24);
    due("1 goes first", w.order(2), 1);
    due("then 0, by the long ROAD", w.order(3), 0);
    due("then 2", w.order(4), 2);
    due("how many", w.order(1), 3);

    says("BEST ORDER: by which most WORTH goes");
    // 0 must leave the short ROAD to the other one, be that worth 1 alone
    LastLoads u = with("places 2;road 0 1 1 0;road 0 1 2 1;load 1 0 1 9;load 2 0 1 1");
    due("one more", u.order(0), 10);
    due("1 goes first", u.order(2), 1);
    due("then 0", u.order(3), 0);
    // each goes as the DRIVES there were bid, by a ROAD of its own: the last of all 720 orders is the best
    StringBuilder own = new StringBuilder("places 2");
    for (int k = 1; k <= 6; k++) own.append(";road 0 1 1 " + k);
    for (int k = 6; k >= 1; k--) own.append(";load " + k + " 0 1 99");
    LastLoads s = with(own.toString(), "bar all+1<kind or all+1>kind");
    due("all go", s.order(0), 6 * 99);
    due("how many", s.order(1), 6);
    for (int i = 0; i < 6; i++) due("place " + i, s.order(2 + i), 5 - i);

    says("of several the first (as a row of numbers)");
    LastLoads v = with("places 2" + ";load 1 0 1 1".repeat(6));
    due("none goes", v.order(0), 0);
    for (int i = 0; i < 6; i++) due("place " + i, v.order(2 + i), i);
  }

  private static void newRoads() {
    says("DEAR: how much more WORTH would go at best if a ROAD's LAST were 0");
    LastLoads x = with("places 3;road 0 1 1 3;road 1 2 1 3;road 1 2 1 4;load 4 0 2 9;load 3 0 1 5");
    due("9 for 5", x.dear(0), 9 - 5);
    due("none", x.dear(1), 0);
    due("none", x.dear(2), 0);
    due("is 0", with("places 2;road 0 1 1 0;load 4 0 1 9").dear(0), 0);
    due("no LOAD", with("places 2;road 0 1 1 7").dear(0), 0);
    // 1 would go by the ROAD that 0 needs: as it is both go, 1 ahead of 0, and else never both
    LastLoads less = with("places 3;road 1 0 8 0;road 2 0 5 3;road 2 0 7 2;road 1 0 9 3;load 3 2 1 5;load 2 2 1 7");
    due("as it is", less.order(0), 5 + 7);
    due("7 for 12", less.dear(1), 7 - 12);

    says("NEW ROAD of so many DAYS (1 to 9), LAST 0");
    LastLoads y = with("places 2;load 1 0 1 0", "bar road>0 or days<9 or last>0 or runs>0 or all>0");
    due("9", y.better(9, 2), 0);
    due("8", y.better(8, 2), 1);
    due("1", with("places 2;load 1 0 1 0", "bar days>1").better(1, 2), 0);

    says("the two PLACES (the lesser first, then the other one) by which fewest LOADS would be STUCK");
    LastLoads z = with("places 10;load 1 9 8 0");
    due("lesser", z.better(1, 0), 8);
    due("other", z.better(1, 1), 9);
    due("none stuck", z.better(1, 2), 0);
    due("least two PLACES", with("places 2").better(1, 1), 1);

    says("it is the ROAD behind all others; also if there are 16");
    String roads = "places 3" + ";road 0 1 1 2".repeat(16) + ";load 1 0 2 0";
    due("16 bars nothing else", with(roads, "bar road<16").better(1, 2), 0);
    due("17 is none", with(roads, "bar road>16").better(1, 2), 0);
    due("16 barred", with(roads, "bar road=16").better(1, 2), 1);
    due("of 15", with("places 3" + ";road 0 1 1 2".repeat(15) + ";load 1 0 2 0", "bar road=15").better(1, 2), 1);

    says("of several the first");
    LastLoads w = with("places 4;load 1 2 1 0;load 1 1 3 0;load 1 2 3 0");
    due("lesser", w.better(1, 0), 1);
    due("other", w.better(1, 1), 2);
    due("stuck", w.better(1, 2), 2);
    due("all alike", with("places 4").better(1, 0), 0);
    due("all alike", with("places 4").better(1, 1), 1);
    LastLoads v = with("places 3" + ";load 1 0 2 0".repeat(8), "bar 1=1");
    due("all eight stuck", v.better(1, 2), 8);
    due("lesser", v.better(1, 0), 0);
    due("other", v.better(1, 1), 1);
  }

  private static void rows() {
    says("FOUND: LAST of ROADS as told (0 to 7; of a ROAD or not)");
    LastLoads x = with("places 2;road 0 1 1 0;road 0 1 2 7;load 7 0 1 0;load 1 0 1 0");
    due("nothing FOUND", x.drove(1, 0), 2);
    x.found(0, 0);
    due("0: none drove there", x.drove(1, 0), 0);
    x.found(0, 7);
    due("7", x.drove(1, 1), 0);
    x.found(0, 1);
    due("1", x.drove(1, 1), 1);
    x.found(1, 0);
    due("the other is not so", x.drove(1, 0), 0);
    x.found(1, 7);
    due("all are so", x.drove(1, 0), 1);
    x.found(0, -1);
    due("of the other alone", x.drove(1, 0), 2);

    says("WHO DROVE: rows of n (1 to 3) unlike LOADS that go one behind the other (each can)");
    LastLoads y = with("places 2;road 0 1 1 0;load 1 0 1 0;load 1 1 0 0;load 2 0 1 0");
    due("1", y.drove(1, 0), 3);
    due("2", y.drove(2, 0), 2);
    due("3", y.drove(3, 0), 0);
    due("in all", y.drove(1, 4), 0);
    due("in all", y.drove(2, 4), 3);
    due("none", y.drove(3, 4), 0);
    due("none", y.drove(3, 3), -2);
    LastLoads z = with("places 2;road 0 1 1 1" + ";load 2 0 1 0".repeat(7) + ";load 1 0 1 0");
    due("the last LOAD", z.drove(1, 1), 7);
    due("as bits", z.drove(1, 4), 128);
    due("fewer LOADS than n", z.drove(2, 0), 0);

    says("(as could be asked for STUCK)");
    LastLoads w = with("places 2;road 0 1 1 0;carter 0;load 1 0 1 0;load 1 0 1 0");
    w.take(0, 0);
    due("on a cart", w.drove(1, 0), 1);
    w.drive(0, 0);
    w.lay(0);
    due("THERE", w.drove(1, 1), 1);
    due("all eight", with("places 2;road 0 1 1 0" + ";load 1 0 1 0".repeat(8)).drove(3, 0), 8 * 7 * 6);
  }

  private static BigInteger drawn;

  private static int draw() {
    drawn = drawn.multiply(BigInteger.valueOf(1103515245)).add(BigInteger.valueOf(12345));
    drawn = drawn.mod(BigInteger.valueOf(2147483648L));
    return drawn.divide(BigInteger.valueOf(65536)).intValueExact();
  }

  private static final int[] SEEDS = {0, 1, 5, 65535, 65536, 1073741823, 1073741824, 2147483646, 2147483647};

  private static void draws() {
    says("DRAWS: x (0 to 2147483647) becomes x * 1103515245 + 12345, of 2147483648 the rest; a DRAW is x / 65536");
    for (int seed : SEEDS) {
      drawn = BigInteger.valueOf(seed);
      int kind = 1 + draw() % 7, from = draw() % 10, to = draw() % 10;
      String net = "places 10;road " + from + " " + (to == from ? (to + 1) % 10 : to) + " 9 " + kind;
      LastLoads x = with(net, "bar not [kind=" + kind + " and from=" + from + " and to=" + to + "]");
      x.seed(seed);
      due("goes with " + seed, x.weeks(1, 1, 0), from == to ? 0 : 1);
      due("days with " + seed, x.weeks(1, 1, 1), from == to ? 0 : 9);
    }

    says("WEEKS m times (1 to 20) n carts (1 to 30)");
    // each KIND has a ROAD of its own, of as many DAYS: all go whose PLACES are unlike
    StringBuilder net = new StringBuilder("places 2");
    for (int k = 1; k <= 7; k++) net.append(";road 0 1 " + k + " " + k);
    for (int seed : SEEDS) weeksOfAll(net.toString(), seed);

    says("each week begins as it is now");
    LastLoads y = with("places 2;road 0 1 4 0;carter 0", "bar runs>1");
    due("two a week", y.weeks(20, 30, 0), 40);
    y.drive(0, 0);
    due("one a week", y.weeks(20, 30, 0), 20);
    due("its days", y.weeks(20, 30, 1), 80);
    y.drive(0, 0);
    due("none", y.weeks(20, 30, 0), 0);
    due("one PLACE", with("places 1").weeks(20, 30, 0), 0);
  }

  private static void weeksOfAll(String net, int seed) {
    LastLoads x = with(net);
    x.seed(seed);
    for (int[] size : new int[][] {{1, 1}, {1, 30}, {2, 29}, {20, 1}, {20, 30}}) {
      drawn = BigInteger.valueOf(seed);
      int gone = 0, days = 0;
      for (int i = 0; i < size[0] * size[1]; i++) {
        int kind = 1 + draw() % 7;
        if (draw() % 2 == draw() % 2) continue;
        gone++;
        days += kind;
      }
      due("go", x.weeks(size[0], size[1], 0), gone);
      due("days", x.weeks(size[0], size[1], 1), days);
    }
    due("x as it was", x.count(9), seed);
  }

  private static void images() {
    says("IMAGES 0 to 3: all but the TAPE and the RULES, as it is; gone back to, it is as it was (these stay)");
    LastLoads x = with("places 2;road 0 1 3 0;carter 0");
    for (int k = 0; k < 4; k++) {
      due("image " + k, x.image(k), k);
      x.drive(0, 0);
    }
    for (int k : new int[] {2, 0, 3, 1, 1, 2}) {
      due("back " + k, x.back(k), k);
      due("day", x.carter(0, 2), 3 * k);
      due("runs", x.road(0, 4), k);
      x.drive(0, 0);
    }
    due("made anew", x.image(1), 3);
    x.back(0);
    due("it took the place of the other", x.back(1), 3);
    net(x, "places 5");
    Told.say(x, "bar 1=1");
    due("a NET later", x.back(2), 2);
    due("its PLACES", x.count(0), 2);
    due("the TAPE stays", x.rule(), 0);
    x.force(0);
    due("back", x.back(2), 2);
    due("none was IN FORCE", x.count(7), -1);
    due("the RULE stays", x.force(0), -1);
    due("and holds", x.drive(0, 0), -5);
  }

  public static void main(String[] args) {
    laws();
    lasts();
    byHand();
    words();
    ways();
    plans();
    farPlan();
    situations();
    orders();
    newRoads();
    rows();
    draws();
    images();
    finish();
  }
}
