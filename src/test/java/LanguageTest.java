import java.io.IOException;
import java.lang.management.ManagementFactory;
import java.lang.reflect.Constructor;
import java.lang.reflect.Field;
import java.lang.reflect.Member;
import java.lang.reflect.Method;
import java.lang.reflect.Modifier;
import java.nio.file.Files;
import java.nio.file.Path;
import java.util.ArrayList;
import java.util.List;
import java.util.Set;
import java.util.TreeSet;
import java.util.regex.Matcher;
import java.util.regex.Pattern;

/** What of ../shared/LANGUAGE.md can be looked at from outside: the face, the words used, sizes, and the room taken. */
public final class LanguageTest {
  private static final String FACE =
      "back better carter count dear drive drove end feed force found image lay load net order plan reached road rule"
      + " seed soonest stuck take way weeks wiped";
  private static int wrong = 0;

  private static void want(boolean holds, String text) {
    if (!holds) {
      wrong++;
      System.out.println(text);
    }
  }

  private static void face() {
    Class<?> c = LastLoads.class;
    want(Modifier.isPublic(c.getModifiers()) && Modifier.isFinal(c.getModifiers()), "the class is public and final");
    Set<String> open = new TreeSet<>();
    for (Method m : c.getDeclaredMethods()) {
      if (m.isSynthetic()) continue;
      if (Modifier.isPublic(m.getModifiers())) want(open.add(m.getName()), "twice: " + m);
      else want(Modifier.isPrivate(m.getModifiers()), "neither public nor private: " + m);
    }
    want(String.join(" ", open).equals(FACE), "the face has " + open);
    for (Constructor<?> k : c.getDeclaredConstructors())
      want(Modifier.isPublic(k.getModifiers()) && k.getParameterCount() == 0, "constructor " + k);
    for (Field f : c.getDeclaredFields()) {
      if (f.getName().equals("NONE")) continue;
      want(Modifier.isPrivate(f.getModifiers()), "not private: " + f);
    }
    List<Class<?>> all = new ArrayList<>(List.of(c.getDeclaredClasses()));
    for (Class<?> n : all) want(Modifier.isStatic(n.getModifiers()), "not static: " + n);
    all.add(c);
    want(all.size() <= 12, "classes: " + all.size());
    for (Class<?> n : all) sizes(n, open);
  }

  private static void sizes(Class<?> c, Set<String> open) {
    int fields = 0;
    for (Field f : c.getDeclaredFields()) {
      boolean fixed = Modifier.isStatic(f.getModifiers());
      want(!fixed || Modifier.isFinal(f.getModifiers()), "static and not final: " + f);
      if (!fixed) fields++;
    }
    want(fields <= 20, "fields of " + c + ": " + fields);
    for (Method m : c.getDeclaredMethods()) {
      want(m.getParameterCount() <= 7, "parameters of " + m);
      want(c == LastLoads.class || !open.contains(((Member) m).getName()), "named as one of the face: " + m);
    }
  }

  private static void words() throws IOException {
    String source = Files.readString(Path.of("src/main/java/LastLoads.java"));
    String code = source.replaceAll("(?s)/\\*.*?\\*/", "").replaceAll("//.*", "");
    code = code.replaceAll("\"[^\"]*\"", "\"\"");
    for (String word : List.of("throw", "try", "catch", "synchronized", "assert", "float", "double", "package",
        "System.out", "Exact", "->", "::", "hashCode", "toString", "equals", "Thread", "Random"))
      want(!Pattern.compile("(?<![A-Za-z])" + Pattern.quote(word) + "(?![A-Za-z])").matcher(code).find(), "used: " + word);
    Matcher imports = Pattern.compile("import (.*);").matcher(code);
    while (imports.find()) want(imports.group(1).equals("java.util.Arrays"), "import " + imports.group(1));
    want(!code.matches("(?s).*while \\(true\\).*"), "a loop without an end");
    String[] lines = source.split("\n");
    int start = -1;
    for (int i = 0; i < lines.length; i++) {
      if (lines[i].matches("( {4}| {8})\\S.*\\) \\{")) start = i;
      if (start >= 0 && lines[i].matches(" {" + (lines[start].startsWith("        ") ? 8 : 4) + "}\\}")) {
        want(i - start < 60, "lines of " + lines[start].trim() + ": " + (i - start + 1));
        start = -1;
      }
    }
  }

  private static int dearCalls(LastLoads x, int calls) {
    int sum = 0;
    for (int i = 0; i < calls; i++) {
      sum += x.order(i % 8) + x.plan(0, i % 8) + x.dear(i % 3) + x.better(1 + i % 9, 2) + x.drove(3, 0);
      sum += x.weeks(20, 30, 0) + x.image(i % 4) + x.back(i % 4) + x.stuck() + x.reached(1, 0);
    }
    return sum;
  }

  private static LastLoads large() {
    LastLoads x = new LastLoads();
    Told.say(x, "places 9" + ";road 0 1 1 5".repeat(9) + ";road 1 2 2 0;road 2 3 4 1;carter 0" + ";load 4 0 3 1".repeat(8));
    want(x.net() == 11, "the large net");
    Told.say(x, "bar all" + "+1".repeat(57) + "=1");
    want(x.rule() == 0, "the long rule");
    x.force(0);
    return x;
  }

  /** An object is to be small, and what is asked of it makes nothing new. */
  private static void room() {
    com.sun.management.ThreadMXBean bean = (com.sun.management.ThreadMXBean) ManagementFactory.getThreadMXBean();
    dearCalls(large(), 2);
    long id = Thread.currentThread().getId();
    long first = bean.getThreadAllocatedBytes(id);
    LastLoads x = new LastLoads();
    long second = bean.getThreadAllocatedBytes(id);
    want(x.count(0) == 0 && second - first < 100000, "bytes of a new object: " + (second - first));
    LastLoads y = large();
    long third = bean.getThreadAllocatedBytes(id);
    dearCalls(y, 20);
    long fourth = bean.getThreadAllocatedBytes(id);
    want(fourth - third < 10000, "bytes of 200 calls: " + (fourth - third));
  }

  public static void main(String[] args) throws IOException {
    face();
    words();
    room();
    System.out.println(wrong == 0 ? "the language is kept" : wrong + " rules are not kept");
    if (wrong != 0) System.exit(1);
  }
}
