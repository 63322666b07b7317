import java.io.IOException;
import java.lang.reflect.Method;
import java.lang.reflect.Modifier;
import java.nio.file.Files;
import java.nio.file.Path;
import java.util.ArrayList;
import java.util.List;
import java.util.regex.Matcher;
import java.util.regex.Pattern;

/** What README.md tells: each call there answers as is said beside it, and no call of the face is left out. */
public final class ReadmeTest extends Check {
  private static final Pattern TEXT = Pattern.compile("say\\(x, \"(.*)\"\\);");
  private static final Pattern CALL = Pattern.compile("x\\.(\\w+)\\(([^)]*)\\);\\s*// (true|false|-?\\d+):.*");
  private static LastLoads x;

  /** The lines of all that is told as Java, but for the helper, which is looked for in Told itself. */
  private static List<String> lines(String readme) throws IOException {
    String told = Files.readString(Path.of("src/test/java/Told.java")).replaceAll("\\s+", " ");
    List<String> out = new ArrayList<>();
    Matcher blocks = Pattern.compile("(?s)```java\n(.*?)```").matcher(readme);
    while (blocks.find()) {
      if (!blocks.group(1).startsWith("static")) {
        out.addAll(List.of(blocks.group(1).split("\n")));
        continue;
      }
      for (String method : blocks.group(1).split("\n\n")) {
        String text = method.replaceAll("\\s+", " ").trim();
        due("Told has: " + text, told.contains(text), true);
      }
    }
    return out;
  }

  private static long answer(String name, String args) throws ReflectiveOperationException {
    String[] numbers = args.isEmpty() ? new String[0] : args.split(", ");
    Object[] values = new Object[numbers.length];
    for (int i = 0; i < numbers.length; i++) values[i] = Integer.valueOf(numbers[i]);
    Class<?>[] types = new Class<?>[numbers.length];
    java.util.Arrays.fill(types, int.class);
    Object got = LastLoads.class.getMethod(name, types).invoke(x, values);
    if (got instanceof Boolean b) return b ? 1 : 0;
    return (Integer) got;
  }

  private static void run(String line) throws ReflectiveOperationException {
    Matcher text = TEXT.matcher(line);
    Matcher call = CALL.matcher(line);
    if (line.equals("LastLoads x = new LastLoads();")) {
      x = new LastLoads();
    } else if (text.matches()) {
      Told.say(x, text.group(1));
    } else if (call.matches()) {
      says("README.md");
      String due = call.group(3);
      long want = due.equals("true") ? 1 : due.equals("false") ? 0 : Long.parseLong(due);
      due(line, answer(call.group(1), call.group(2)), want);
    } else {
      due("a line that can be run: " + line, false, true);
    }
  }

  public static void main(String[] args) throws IOException, ReflectiveOperationException {
    String readme = Files.readString(Path.of("README.md"));
    for (String line : lines(readme)) run(line);
    for (Method m : LastLoads.class.getDeclaredMethods()) {
      if (!Modifier.isPublic(m.getModifiers())) continue;
      boolean told = Pattern.compile("\\b" + m.getName() + "[`(]").matcher(readme).find();
      due("README.md tells of " + m.getName(), told, true);
    }
    finish();
  }
}
