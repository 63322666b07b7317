/** An object in which much has happened, and all that can be seen of it, so that a change shows wherever it is. */
final class Rich {
  private Rich() { }

  private static final String NET =
      "places 4;road 0 1 2 0;road 1 2 3 5;road 0 2 9 0;road 2 3 1 4;carter 0;carter 2;carter 3"
      + ";load 5 0 2 9;load 4 1 3 7;load 2 3 0 5;load 1 3 2 1;load 6 2 1 8";
  private static final String PENDING = "places 7;road 0 6 1 3";

  /**
   * RULE 0 of two IN FORCE, five DRIVES, a LOAD THERE, one on a cart, two ROADS FOUND, x 77,
   * IMAGES 2 (ahead of the DRIVES) and 0 (ahead of the last two), and a NET on the TAPE that was not told yet.
   */
  static LastLoads make() {
    LastLoads x = new LastLoads();
    Told.say(x, NET);
    x.net();
    x.seed(77);
    x.image(2);
    Told.say(x, "bar days>8;wipe last=4");
    x.rule();
    Told.say(x, "bar kind=7");
    x.rule();
    x.force(0);
    x.drive(1, 3);
    x.take(2, 3);
    x.drive(2, 3);
    x.lay(2);
    x.take(0, 0);
    x.drive(0, 0);
    x.found(0, 5);
    x.found(3, 1);
    x.image(0);
    x.drive(0, 1);
    x.drive(1, 3);
    Told.say(x, PENDING);
    return x;
  }

  private static void see(LastLoads x, StringBuilder s) {
    for (int what = 0; what < 12; what++) s.append(x.count(what)).append(' ');
    for (int r = 0; r < x.count(1); r++) for (int w = 0; w < 5; w++) s.append(x.road(r, w)).append(' ');
    for (int c = 0; c < x.count(2); c++) for (int w = 0; w < 3; w++) s.append(x.carter(c, w)).append(' ');
    for (int l = 0; l < x.count(3); l++) for (int w = 0; w < 5; w++) s.append(x.load(l, w)).append(' ');
    s.append(x.stuck()).append(' ').append(x.order(0)).append(' ').append(x.drove(1, 0)).append(' ');
    s.append(x.drove(1, 1)).append(' ').append(x.drove(2, 0)).append(' ').append(x.weeks(2, 9, 1)).append('\n');
  }

  /** What can be seen now, then as the NET on the TAPE, then in each IMAGE; the object is used up by it. */
  static String trace(LastLoads x) {
    StringBuilder s = new StringBuilder();
    see(x, s);
    s.append(x.net()).append(' ');
    see(x, s);
    for (int k = 0; k < 4; k++) {
      s.append(x.back(k)).append(' ');
      if (k % 2 == 0) see(x, s);
    }
    return s.toString();
  }
}
