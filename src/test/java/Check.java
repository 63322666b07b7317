/** What the tests of calls share: each call that does not answer as is due is told, with what the test was about. */
class Check {
  private static int wrong = 0;
  private static int sentences = 0;
  private static String about = "";

  /** What follows is about this sentence of the document. */
  static void says(String sentence) {
    about = sentence;
    sentences++;
  }

  static void due(String call, long got, long want) {
    if (got == want) return;
    wrong++;
    System.out.println(about + ": " + call + " answered " + got + ", due is " + want);
  }

  static void due(String call, boolean got, boolean want) { due(call, got ? 1 : 0, want ? 1 : 0); }

  static int net(LastLoads x, String text) {
    Told.say(x, text);
    return x.net();
  }

  static int rule(LastLoads x, String text) {
    Told.say(x, text);
    return x.rule();
  }

  /** A new object with a NET. */
  static LastLoads with(String text) {
    LastLoads x = new LastLoads();
    due("net " + text, net(x, text) >= 0, true);
    return x;
  }

  /** A new object with a NET and a RULE IN FORCE. */
  static LastLoads with(String text, String law) {
    LastLoads x = with(text);
    due("rule " + law, rule(x, law), 0);
    x.force(0);
    return x;
  }

  static void netStands(String text) { due("net '" + text + "'", net(new LastLoads(), text) >= 0, true); }

  static void netFault(String text, int place, int why) {
    due("net '" + text + "'", net(new LastLoads(), text), -3 - 8 * place - why);
  }

  static void ruleStands(String text) { due("rule '" + text + "'", rule(new LastLoads(), text), 0); }

  static void ruleFault(String text, int place, int why) {
    due("rule '" + text + "'", rule(new LastLoads(), text), -3 - 8 * place - why);
  }

  /** Whether a fact holds for the first drive of a carter at day 0, empty, by the second road from 2 to 1. */
  static void holds(String fact, boolean want) {
    LastLoads x = with("places 3;road 0 1 2 0;road 1 2 7 3;carter 2", "bar " + fact);
    due("bar " + fact, x.drive(0, 1), want ? -5 : 1);
  }

  static void finish() {
    String tested = sentences + " sentences: ";
    System.out.println(tested + (wrong == 0 ? "all answers are as due" : wrong + " answers are not as due"));
    if (wrong != 0) System.exit(1);
  }
}
