import java.io.PrintWriter;
import java.io.StringWriter;
import java.net.URL;
import java.util.HashMap;
import java.util.HashSet;
import java.util.Map;
import java.util.Set;
import java.util.TreeSet;
import java.util.regex.Matcher;
import java.util.regex.Pattern;
import java.util.spi.ToolProvider;

/** How deep calls go (rules 8 and 11 of LANGUAGE.md), by the calls that stand in the compiled classes. */
public final class DepthTest {
  private static final int DEEPEST = 8;
  private static final Pattern HEAD = Pattern.compile("  (?:[a-z]+ )*(?:[\\w.$\\[\\]]+ )?([\\w$]+)\\(.*\\);");
  private static final Pattern CALL = Pattern.compile("// Method ([\\w$/\"<>.]+):");

  private static final Map<String, Set<String>> CALLS = new HashMap<>();
  private static final Set<String> CIRCLES = new TreeSet<>();

  public static void main(String[] args) throws Exception {
    ToolProvider javap = ToolProvider.findFirst("javap").orElse(null);
    if (javap == null) {
      System.out.println("there is no javap here: depths are not looked at");
      return;
    }
    note(javap, FeetRoads.class);
    for (Class<?> inside : FeetRoads.class.getDeclaredClasses()) {
      note(javap, inside);
    }
    int deepest = 0;
    for (String method : CALLS.keySet()) {
      if (method.startsWith("FeetRoads.")) {
        deepest = Math.max(deepest, depth(method, new HashSet<>()));
      }
    }
    System.out.println(CALLS.size() + " methods, calls go " + deepest + " deep, they come back to " + CIRCLES);
    // asks alone are recursive; their depth is carried along
    boolean fine = CALLS.size() > 100 && deepest <= DEEPEST && CIRCLES.stream().allMatch(c -> c.contains("$Asker."));
    if (!fine) {
      System.out.println("that is not as it should be");
      System.exit(1);
    }
  }

  private static void note(ToolProvider javap, Class<?> c) {
    StringWriter told = new StringWriter();
    URL file = c.getResource(c.getName() + ".class");
    javap.run(new PrintWriter(told), new PrintWriter(told), "-p", "-c", file.toString());
    String method = null;
    for (String line : told.toString().split("\n")) {
      Matcher head = HEAD.matcher(line);
      Matcher call = CALL.matcher(line);
      if (head.matches()) {
        method = c.getName() + "." + head.group(1);
        CALLS.put(method, new TreeSet<>());
      } else if (method != null && call.find()) {
        String called = call.group(1);
        CALLS.get(method).add(called.contains(".") ? called : c.getName() + "." + called);
      }
    }
  }

  private static int depth(String method, Set<String> open) {
    if (!open.add(method)) {
      CIRCLES.add(method);
      return 0;
    }
    int deepest = 0;
    for (String called : CALLS.getOrDefault(method, Set.of())) {
      deepest = Math.max(deepest, depth(called, open));
    }
    open.remove(method);
    return deepest + 1;
  }
}
