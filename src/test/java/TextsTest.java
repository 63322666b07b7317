/** Each sentence of "Terms", part I, that names a boundary: what stands just inside of it, and what does not beyond. */
public final class TextsTest extends Check {
  private static String blanks(int n) { return " ".repeat(n); }

  /** A NUMBER of a NET that may be from least to most, but for one value. */
  private static void range(String ahead, String behind, int least, int most, int unlike) {
    for (int v = Math.max(0, least - 2); v <= most + 2; v++) {
      if (v >= least && v <= most && v != unlike) netStands(ahead + v + behind);
      else netFault(ahead + v + behind, ahead.length(), 1);
    }
    netStands(ahead + "0000" + least + behind);
    netFault(ahead + "00000" + least + behind, ahead.length(), 1);
    netFault(ahead + "99999" + behind, ahead.length(), 1);
    netFault(ahead + "4294967297" + behind, ahead.length(), 1);
    netFault(ahead + "x", ahead.length(), 0);
    netFault(ahead + "-1", ahead.length(), 0);
    netFault(ahead, ahead.length(), 0);
  }

  /** The first of two PLACES of ten, the second being the last one. */
  private static void firstPlaces(String ahead, String behind) {
    for (int v = 0; v < 9; v++) netStands(ahead + v + behind);
    netFault(ahead + 9 + behind, ahead.length() + 2, 1);
    netFault(ahead + 10 + behind, ahead.length(), 1);
    netFault(ahead + "000000" + behind, ahead.length(), 1);
    netFault(ahead + "x", ahead.length(), 0);
    netFault(ahead, ahead.length(), 0);
  }

  private static void lengths() {
    says("A NET is a text of at most 400 bytes");
    String start = "places 2;road 0 1 1";
    LastLoads x = with(start + blanks(399 - start.length()) + "7");
    due("the 400th byte is read", x.road(0, 3), 7);
    netFault(start + blanks(399 - start.length()) + "8", 399, 1);
    netFault("places 2" + blanks(391) + ";", 400, 0);
    netStands("places 2" + blanks(392));
    netFault("places 2" + blanks(387) + ";road", 400, 0);
    netFault("places 2" + blanks(386) + ";roads", 395, 0);

    says("RULES 0 to 5: texts likewise");
    ruleStands("bar 1=" + blanks(393) + "1");
    ruleFault("bar 1=" + blanks(393) + "x", 399, 0);
    ruleFault("bar 1=" + blanks(394), 400, 0);
    ruleStands("bar 1=" + blanks(391) + "all");
    ruleFault("bar 1=" + blanks(390) + "alls", 396, 0);
    ruleFault("bar 1=1" + blanks(389) + ";bar", 400, 0);
    ruleFault("bar 1=1" + blanks(390) + "and", 400, 0);
    ruleFault("bar" + blanks(394) + "not", 400, 0);
    ruleFault("bar 1" + blanks(393) + "<=", 400, 0);
    ruleFault("bar 1" + blanks(394) + "<", 400, 0);
  }

  private static void clauses() {
    says("CLAUSE { ; CLAUSE }, 40 at most");
    // 1 + 16 + 4 + 8 are the most that can stand, so that a 41st CLAUSE is never the first FAULT
    String full = "places 2" + ";road 0 1 1 0".repeat(16) + ";carter 1".repeat(4) + ";load 1 0 1 0".repeat(8);
    LastLoads x = with(full);
    int[] counts = {2, 16, 4, 8};
    for (int what = 0; what < 4; what++) due("count " + what, x.count(what), counts[what]);
    for (String more : new String[] {"places 2", "road 0 1 1 0", "carter 0", "load 1 0 1 0"})
      netFault(full + ";" + more, full.length() + 1, 4);
    netFault(full + ";", full.length() + 1, 0);
    netFault("places 2" + ";road 0 1 1 0".repeat(16) + ";road".repeat(24), 8 + 16 * 13 + 1, 4);
    netFault(";places 2", 0, 0);
    netFault("places 2;;carter 0", 9, 0);

    says("12 CLAUSES at most");
    for (int n = 1; n <= 12; n++) ruleStands("wipe 1=1" + ";bar 1=1".repeat(n - 1));
    String twelve = "wipe 1=1" + ";bar 1=1".repeat(11);
    ruleFault(twelve + ";bar 1=1", twelve.length() + 1, 4);
    ruleFault(twelve + ";  wipe 1=1", twelve.length() + 3, 4);
    ruleFault(";bar 1=1", 0, 0);
    ruleFault("bar 1=1;;bar 1=1", 8, 0);
  }

  private static void places() {
    says("places NUMBER (1 to 10; once, the first CLAUSE)");
    range("places ", "", 1, 10, -1);
    due("1", with("places 1").count(0), 1);
    due("10", with("places 10").count(0), 10);
    netFault("places 2;places 2", 9, 4);
    netFault("places 2;carter 0;places 2", 18, 4);
    netFault("carter 0;places 2", 0, 4);
    netFault(" load 1 0 1 0;places 2", 1, 4);
    netFault("road", 0, 4);
  }

  private static void roads() {
    says("road NUMBER NUMBER NUMBER NUMBER (between two unlike PLACES");
    firstPlaces("places 10;road ", " 9 1 0");
    range("places 10;road 5 ", " 1 0", 0, 9, 5);
    range("places 10;road 0 ", " 1 0", 1, 9, -1);
    range("places 10;road 9 ", " 1 0", 0, 8, -1);
    range("places 2;road 1 ", " 1 0", 0, 0, -1);
    netFault("places 1;road 0 0 1 0", 16, 1);
    netFault("places 1;road 0 1 1 0", 16, 1);
    netFault("places 1;road 1 0 1 0", 14, 1);

    says("DAYS 1 to 9");
    range("places 2;road 0 1 ", " 0", 1, 9, -1);

    says("its LAST 0 to 7: 0 nothing yet");
    range("places 2;road 0 1 1 ", "", 0, 7, -1);
  }

  private static void cartersAndLoads() {
    says("carter NUMBER (a PLACE)");
    range("places 10;carter ", "", 0, 9, -1);
    range("places 1;carter ", "", 0, 0, -1);

    says("load NUMBER NUMBER NUMBER NUMBER (its KIND 1 to 7");
    range("places 2;load ", " 0 1 0", 1, 7, -1);

    says("from a PLACE to another one");
    firstPlaces("places 10;load 1 ", " 9 0");
    range("places 10;load 1 5 ", " 0", 0, 9, 5);
    range("places 10;load 1 9 ", " 0", 0, 8, -1);
    netFault("places 1;load 1 0 0 0", 18, 1);

    says("WORTH 0 to 99");
    range("places 2;load 1 0 1 ", "", 0, 99, -1);
    due("0", with("places 2;load 1 0 1 0").load(0, 3), 0);
    due("99", with("places 2;load 1 0 1 99").load(0, 3), 99);
  }

  private static void numbering() {
    says("PLACES 0 and on, ROADS 0 to 15, CARTERS 0 to 3, LOADS 0 to 7, in the order told");
    StringBuilder s = new StringBuilder("places 9");
    for (int i = 0; i < 16; i++) {
      s.append(";road " + i / 2 + " 8 " + (1 + i % 9) + " " + i % 8);
      if (i % 4 == 0) s.append(";carter " + (8 - i / 4));
      if (i % 2 == 0) s.append(";load " + (1 + i / 2 % 7) + " " + i / 2 + " 8 " + 9 * (i / 2));
    }
    LastLoads x = with(s.toString());
    for (int i = 0; i < 16; i++) {
      int[] told = {i / 2, 8, 1 + i % 9, i % 8, 0};
      for (int what = 0; what < 5; what++) due("road " + i, x.road(i, what), told[what]);
    }
    for (int i = 0; i < 4; i++) due("carter " + i, x.carter(i, 0), 8 - i);
    for (int i = 0; i < 8; i++) {
      int[] told = {1 + i % 7, i, 8, 9 * i, 0};
      for (int what = 0; what < 5; what++) due("load " + i, x.load(i, what), told[what]);
    }
    due("a 17th", x.road(16, 0), -1);
    due("a fifth", x.carter(4, 0), -1);
    due("a ninth", x.load(8, 0), -1);

    says("CARTERS are empty at first, each at day 0 of his own; each LOAD lies where it is from");
    for (int i = 0; i < 4; i++) due("has none", x.carter(i, 1), -1);
    for (int i = 0; i < 4; i++) due("day", x.carter(i, 2), 0);
    for (int i = 0; i < 8; i++) due("not there", x.load(i, 4), 0);
  }

  private static void numbersOfRules() {
    says("NUMBER (1 to 5 digits, as far as digits go on)");
    ruleStands("bar 0=99999");
    ruleStands("bar 00000=00009");
    ruleFault("bar 100000=1", 4, 1);
    ruleFault("bar 000000=1", 4, 1);
    ruleFault("bar 1=100000", 6, 1);
    ruleFault("bar 1=12345 6", 12, 0);
    ruleFault("bar 1=1 2", 8, 0);
    holds("99999=99998+1 and 00010=10", true);
  }

  private static void words() {
    says("WORDS (small letters, as far as these go on) of a DRIVE");
    for (String w : new String[] {"road", "days", "last", "kind", "from", "to", "runs", "all", "day"}) {
      ruleStands("bar " + w + "=" + w);
      ruleFault("bar " + w + "s" + w + "=1", 4, 0);
      ruleFault("bar 1=x" + w, 6, 0);
      ruleFault("bar " + w.substring(0, 1) + " " + w.substring(1) + "=1", 4, 0);
      ruleFault("bar " + w.toUpperCase() + "=1", 4, 0);
      ruleFault("bar " + w + " " + w + "=1", 5 + w.length(), 0);
    }
    for (String w : new String[] {"places", "carter", "load", "bar", "wipe", "or", "and", "not", "x", "a"})
      ruleFault("bar 1=" + w, 6, 0);
    ruleStands("bar1=1or1=1and1=1;wipe1=1");
    ruleFault("bar 1=1or all=1orall=1", 15, 0);
    ruleFault("barall=1", 0, 0);
    ruleFault("bar notall=1", 4, 0);
    netStands("places2;road0 1 1 0;carter0;load1 0 1 0");
    netFault("place 2", 0, 0);
    netFault("places 2;roa 0 1 1 0", 9, 0);
    netFault("places 2;roadx 0 1 1 0", 9, 0);
    netFault("places 2;carters 0", 9, 0);
    netFault("places 2;loads 1 0 1 0", 9, 0);
    netFault("places 2;bar 1=1", 9, 0);
  }

  /** The bytes just inside and just beyond the small letters and the digits. */
  private static void edgesOfWordsAndNumbers() {
    says("WORDS (small letters, as far as these go on): a and z are, the bytes beside them are not");
    for (char c : new char[] {'a', 'z'}) {
      netFault("places" + c + " 2", 0, 0);
      netFault("places 2;road" + c + " 0 1 1 0", 9, 0);
      ruleFault("bar" + c + " 1=1", 0, 0);
      ruleFault("bar not" + c + " 1=1", 4, 0);
      ruleFault("bar 1=1 and" + c + " 1=1", 8, 0);
      ruleFault("bar all" + c + "=1", 4, 0);
      ruleFault("bar 1=day" + c, 6, 0);
    }
    for (char c : new char[] {'`', '{', 'A', 'Z'}) {
      netFault("places" + c + "2", 6, 0);
      netFault("places 2;road" + c + "0 1 1 0", 13, 0);
      ruleFault("bar" + c + "1=1", 3, 0);
      ruleFault("bar not" + c + "1=1", 7, 0);
      ruleFault("bar all" + c + "=1", 7, 0);
      ruleFault("bar 1=day" + c, 9, 0);
    }

    says("NUMBER (as far as digits go on): 0 and 9 are, the bytes beside them are not");
    for (char c : new char[] {'/', ':'}) {
      netFault("places 2" + c, 8, 0);
      netFault("places " + c, 7, 0);
      ruleFault("bar " + c + "1=1", 4, 0);
    }
    ruleFault("bar 1:=1", 5, 0);
    netFault("places 20", 7, 1);
    netFault("places 29", 7, 1);
    holds("10=10 and 19=19 and 90=90 and 99=99", true);
  }

  private static void wordsOfADrive() {
    says("kind (of what is carried; 0 empty)");
    LastLoads x = with("places 2;road 0 1 2 0;carter 0;load 7 0 1 0", "bar kind=0;wipe 1=2");
    due("empty", x.drive(0, 0), -5);
    x.take(0, 0);
    due("of KIND 7", x.drive(0, 0), 1);

    says("runs (DRIVES there were on this ROAD), all (DRIVES there were in all)");
    LastLoads y = with("places 2;road 0 1 1 0;road 0 1 1 0;carter 0;carter 1", "bar road=1 and runs>=1;bar all>=4");
    due("none there", y.drive(0, 1), 1);
    due("one there", y.drive(0, 1), -5);
    due("none there, one in all", y.drive(0, 0), 0);
    due("two in all", y.drive(1, 0), 0);
    due("three in all", y.drive(0, 0), 1);
    due("four in all", y.drive(0, 0), -5);

    says("day (of the CARTER; 0 where none is told)");
    LastLoads z = with("places 2;road 0 1 9 0;carter 0;carter 0;load 1 0 1 0", "bar day>=9");
    due("day 0", z.drive(0, 0), 1);
    due("day 9", z.drive(0, 0), -5);
    due("another's day 0", z.drive(1, 0), 1);
    due("none is told", z.soonest(1, 0, 1), 9);
  }

  private static void arithmetic() {
    says("/ is towards 0");
    holds("7/2=3 and 1/2=0 and 0/7=0 and 9/3=3 and 8/3=2", true);
    // 99999 * 99999 * 99999 * 9999 is odd, and above half of 64 bits: below 0 as it goes round
    String below = "99999*99999*99999*9999";
    holds(below + "<0", true);
    holds(below + "/2*2=" + below + "+1", true);

    says("0 by 0");
    holds("7/0=0 and 0/0=0 and 7/kind=0 and " + below + "/0=0", true);
    holds("7/0*5+1=1", true);

    says("all goes round in 64 bits");
    String most = "65536*65536*65536*16384";
    holds(most + ">0", true);
    holds(most + "*2<0", true);
    holds(most + "*4=0", true);
    holds(most + "+" + most + "-1>0", true);
    holds(most + "+" + most + "<0", true);
    holds("0-" + most + "-" + most + "<0", true);
    holds("0-" + most + "-" + most + "-1>0", true);
    holds(most + "*2=0-" + most + "-" + most, true);
    holds(most + "*2-1>" + most + "*2", true);
  }

  private static void signs() {
    says("SIGN one of < <= = >= >");
    String[] signs = {"<", "<=", "=", ">=", ">"};
    for (int v = 6; v <= 8; v++) {
      boolean[] want = {v < 7, v <= 7, v == 7, v >= 7, v > 7};
      for (int i = 0; i < 5; i++) holds(v + signs[i] + "days", want[i]);
    }
    ruleFault("bar 1==1", 6, 0);
    ruleFault("bar 1=<1", 6, 0);
    ruleFault("bar 1=>1", 6, 0);
    ruleFault("bar 1<>1", 6, 0);
    ruleFault("bar 1< =1", 7, 0);
    ruleFault("bar 1> =1", 7, 0);
    ruleFault("bar 1!=1", 5, 0);
    ruleFault("bar 1", 5, 0);
    ruleFault("bar 1<", 6, 0);
    ruleFault("bar 1<=", 7, 0);
    ruleFault("bar 1=1=1", 7, 0);

    says("[ TEST ] (these brackets are signs)");
    holds("[days=7]", true);
    ruleFault("bar []", 5, 0);
    ruleFault("bar [1=1", 8, 0);
    ruleFault("bar 1=1]", 7, 0);
    ruleFault("bar [1]=1", 6, 0);
    ruleFault("bar (1=1)", 4, 0);
    ruleFault("bar [1=1;bar 1=1]", 8, 0);
    ruleFault("bar [1=1][1=1]", 9, 0);
    ruleFault("bar [1=1]not 1=1", 9, 0);
  }

  private static void blanksBetween() {
    says("Blanks (32) stand between as one likes");
    netStands("  places   2  ;  road  0  1  1  0  ;  carter  0  ;  load  1  0  1  0  ");
    ruleStands("  bar  not  [  1  +  2  *  3  /  4  -  5  <=  6  or  1  =  1  and  2  >  1  ]  ;  wipe  1  =  1  ");
    for (int b : new int[] {0, 9, 10, 13, 31, 33, 127, 128, 160, 255}) {
      netFault("places" + (char) b + "2", 6, 0);
      netFault("places 2" + (char) b, 8, 0);
      netFault((char) b + "places 2", 0, 0);
      ruleFault("bar" + (char) b + "1=1", 3, 0);
      ruleFault("bar 1=1" + (char) b, 7, 0);
    }
  }

  private static void depth() {
    says("[ and not lie within one another 10 deep at most");
    for (int n = 1; n <= 10; n++) {
      ruleStands("bar " + "[".repeat(n) + "1=1" + "]".repeat(n));
      ruleStands("bar " + "not ".repeat(n) + "1=1");
    }
    ruleFault("bar " + "[".repeat(11) + "1=1" + "]".repeat(11), 14, 2);
    ruleFault("bar " + "not ".repeat(11) + "1=1", 44, 2);
    ruleStands("bar " + "not[".repeat(5) + "1=1" + "]".repeat(5));
    ruleFault("bar " + "not[".repeat(5) + "[1=1" + "]".repeat(6), 24, 2);
    ruleFault("bar " + "not[".repeat(5) + " not 1=1" + "]".repeat(5), 25, 2);
    ruleFault("bar [" + "not ".repeat(10) + "1=1]", 41, 2);
    // what was closed is not deep any more
    String ten = "[".repeat(10) + "1=1" + "]".repeat(10);
    ruleStands("bar " + ten + "or " + ten + "and not not 1=1;wipe " + ten);
    ruleStands("bar " + "not ".repeat(10) + "1=1 and " + "not ".repeat(10) + "1=1");
    ruleStands("bar [" + "not ".repeat(9) + "1=1 or " + "not ".repeat(9) + "1=1]");
    ruleFault("bar [" + "not ".repeat(9) + "1=1 or " + "not ".repeat(10) + "1=1]", 5 + 36 + 7 + 36, 2);
    holds("not not not not not not not not not not days=7", true);
    holds("[[[[[[[[[not days=7]]]]]]]]]", false);
  }

  private static void values() {
    says("at most 60 VALUES and FACTS made of a SIGN, together");
    // a FACT and its two VALUES are 3: twenty of these are 60
    String twenty = "1=1" + " or 1=1".repeat(19);
    ruleStands("bar " + twenty);
    ruleFault("bar " + twenty + " or 1=1", 4 + twenty.length() + 4, 3);
    String clauses = "bar 1=1 or 1=1" + ";wipe 1=1 or 1=1".repeat(9);
    ruleStands(clauses);
    ruleFault(clauses + ";bar all=1", clauses.length() + 5, 3);
    // 58 VALUES, a SIGN and a VALUE
    String sum = "1" + "+all".repeat(57);
    ruleStands("bar " + sum + "=1");
    ruleFault("bar " + sum + "=1*1", 4 + sum.length() + 3, 3);
    ruleFault("bar " + sum + "-1=1", 4 + sum.length() + 3, 3);
    ruleFault("bar " + sum + "-1-day=1", 4 + sum.length() + 6, 3);
    ruleFault("bar " + sum + "-1-1   <=1", 4 + sum.length() + 7, 3);
    ruleFault("bar " + sum + "-1-1/  day=1", 4 + sum.length() + 7, 3);
    ruleStands("bar not [not[" + twenty + "]]");
    ruleFault("bar not [not[" + twenty + "] and 1=1]", 4 + 9 + twenty.length() + 6, 3);
  }

  private static void oneTextAfterAnother() {
    says("at most 60 VALUES, 12 CLAUSES and 10 deep are of one text");
    String sixty = "bar 1=1" + " or 1=1".repeat(19);
    String twelve = "wipe 1=1" + ";bar 1=1".repeat(11);
    String ten = "bar " + "[".repeat(10) + "1=1" + "]".repeat(10);
    LastLoads x = new LastLoads();
    due("60", rule(x, sixty), 0);
    due("60 again", rule(x, sixty), 1);
    due("61", rule(x, sixty + " or 1=1"), -3 - 8 * (sixty.length() + 4) - 3);
    due("60 behind a FAULT", rule(x, sixty), 2);
    due("12", rule(x, twelve), 3);
    due("11 deep", rule(x, ten.replace("1=1", "[1=1]")), -3 - 8 * 14 - 2);
    due("10 deep behind a FAULT", rule(x, ten), 4);
    due("12 again", rule(x, twelve), 5);

    says("A RULE has its own TESTS alone");
    LastLoads y = with("places 2;road 0 1 1 6;carter 0");
    due("a wipe", rule(y, "wipe 1=1"), 0);
    due("a FAULT behind both", rule(y, "wipe 1=1;bar 1=1;x"), -3 - 8 * 17);
    due("neither", rule(y, "bar 1=2"), 1);
    due("a bar", rule(y, "bar 1=1;wipe 1=2"), 2);
    due("neither", rule(y, "wipe 1=2"), 3);
    for (int r : new int[] {1, 3}) {
      y.force(r);
      due("not barred", y.drive(0, 0) >= 0, true);
      due("not wiped", y.road(0, 3), 6);
    }
    y.force(2);
    due("barred", y.drive(0, 0), -5);
    y.force(0);
    due("not barred", y.drive(0, 0), 1);
    due("wiped", y.road(0, 3), 0);

    says("a NET has its own PLACES, ROADS, CARTERS and LOADS alone");
    LastLoads z = with("places 9" + ";road 7 8 1 1".repeat(16) + ";carter 8".repeat(4) + ";load 1 7 8 1".repeat(8));
    due("a FAULT", net(z, "places 9;road 7 8 1 1;carter 8;load 1 7 8 1;x"), -3 - 8 * 44);
    due("behind it", net(z, "places 2;road 0 1 1 0"), 1);
    int[] counts = {2, 1, 0, 0};
    for (int what = 0; what < 4; what++) due("count " + what, z.count(what), counts[what]);
    due("a PLACE of the other one", net(z, "places 2;carter 2"), -3 - 8 * 16 - 1);
    due("no places", net(z, "carter 0"), -3 - 4);
  }

  /** Tells a text with others behind it that were cut off. */
  private static LastLoads cut(String text, String gone) {
    LastLoads x = new LastLoads();
    Told.say(x, text + gone);
    x.end(text.length());
    return x;
  }

  private static void whatWasBehind() {
    says("The TAPE has its first n bytes alone: what stood behind them is not read");
    String net = " places 10 ; road 00000 9  1 7;carter 9;load 7 9  8 99 ";
    String rule = " bar not [ all <= 12345 ] or days/2 >=  10 and to=1;wipe kind >0 ";
    String[] ends = {"", " ", "   ", "0", "9", "a", "z", "s", "=", "=1", ";", "]", "[", " 1", "]" + blanks(9), "x"};
    for (int n = 0; n <= net.length(); n++) {
      int want = net(new LastLoads(), net.substring(0, n));
      due("net cut at " + n, cut(net.substring(0, n), net.substring(n)).net(), want);
      for (String gone : ends) due("net " + n + " ahead of " + gone, cut(net.substring(0, n), gone).net(), want);
    }
    for (int n = 0; n <= rule.length(); n++) {
      int want = rule(new LastLoads(), rule.substring(0, n));
      due("rule cut at " + n, cut(rule.substring(0, n), rule.substring(n)).rule(), want);
      for (String gone : ends) due("rule " + n + " ahead of " + gone, cut(rule.substring(0, n), gone).rule(), want);
    }
    due("a NUMBER", cut("places 1", "0").net(), 0);
    due("a WORD", cut("places", "s").net(), -3 - 8 * 6);
    due("the end", cut("places", " ").net(), -3 - 8 * 6);
    due("a SIGN", cut("bar 1<", "=").rule(), -3 - 8 * 6);
    due("a VALUE", cut("bar 1=all", "s").rule(), 0);
  }

  private static void faults() {
    says("FAULTS, the first along the text");
    netFault("places 11;road 0 0 1 0", 7, 1);
    netFault("places 2;road 2 2 0 8;x", 14, 1);
    netFault("places 2;road 0 1 1 8 x", 20, 1);
    netFault("places 2;road 0 1 1 x;places 2", 20, 0);
    ruleFault("bar 123456=x", 4, 1);
    ruleFault("bar x=123456", 4, 0);
    ruleFault("bar " + "[".repeat(11) + "x", 14, 2);
    ruleFault("bar " + "[".repeat(10) + "x" + "[".repeat(2), 14, 0);

    says("1 + 8 * its place");
    netFault("", 0, 0);
    netFault("x", 0, 0);
    netFault(" x", 1, 0);
    ruleFault("", 0, 0);
    ruleFault(" x", 1, 0);

    says("0 a byte or WORD that can't stand there, or the end (behind the last byte; also without places)");
    netFault(blanks(1), 1, 0);
    netFault(blanks(400), 400, 0);
    netFault("places 2;carter", 15, 0);
    netFault("places 2;carter  ", 17, 0);
    netFault("places 2;load 1 0 1", 19, 0);
    netFault("places 2;road 0 1 1;carter 0", 19, 0);
    ruleFault("bar", 3, 0);
    ruleFault("bar 1=1 and", 11, 0);
    ruleFault("bar 1=1 or ", 11, 0);
    ruleFault("bar not", 7, 0);
    ruleFault("bar [", 5, 0);
    ruleFault("bar 1+", 6, 0);
    ruleFault("bar 1*=1", 6, 0);
    ruleFault("bar 1=1 bar 1=1", 8, 0);
    ruleFault("bar +1=1", 4, 0);
    ruleFault("bar 1--1=1", 6, 0);

    says("4 one CLAUSE too many, a 17th ROAD, a fifth CARTER, a ninth LOAD (at its first byte)");
    tooMany(";road 0 1 1 0", 16);
    tooMany(";carter 0", 4);
    tooMany(";load 1 0 1 0", 8);

    says("Of one place the least");
    String roads = "places 2" + ";road 0 1 1 0".repeat(16);
    netFault(roads + ";rode 0 1 1 0", roads.length() + 1, 0);
    netFault(roads + ";road", roads.length() + 1, 4);
    netFault("places 2 123456", 9, 0);
    netFault("places 2;123456", 9, 0);
    String twelve = "bar 1=1" + ";wipe 1=1".repeat(11);
    ruleFault(twelve + ";places 2", twelve.length() + 1, 0);
    ruleFault(twelve + ";bar", twelve.length() + 1, 4);
    ruleFault("bar 1=1 123456", 8, 0);
    String sixty = "bar all" + "+1".repeat(59);
    ruleFault(sixty + "+123456=1", sixty.length() + 1, 1);
    ruleFault(sixty + "+12345=1", sixty.length() + 1, 3);
    ruleFault(sixty + "+x=1", sixty.length() + 1, 0);
    ruleFault(sixty + "+=1", sixty.length() + 1, 0);
    ruleFault(sixty + "]", sixty.length(), 0);
    ruleFault("bar " + "[".repeat(10) + "1=[1", 16, 0);
    ruleFault("bar " + "[".repeat(10) + "1=not 1", 16, 0);
  }

  /** As many of these CLAUSES stand, and one more does not, with blanks ahead of it or not. */
  private static void tooMany(String clause, int most) {
    String text = "places 2" + clause.repeat(most);
    netStands(text);
    netFault(text + clause, text.length() + 1, 4);
    netFault(text + ";  " + clause.substring(1), text.length() + 3, 4);
  }

  public static void main(String[] args) {
    lengths();
    clauses();
    places();
    roads();
    cartersAndLoads();
    numbering();
    numbersOfRules();
    words();
    edgesOfWordsAndNumbers();
    wordsOfADrive();
    arithmetic();
    signs();
    blanksBetween();
    depth();
    values();
    oneTextAfterAnother();
    whatWasBehind();
    faults();
    finish();
  }
}
