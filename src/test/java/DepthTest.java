import java.util.HashMap;
import java.util.HashSet;
import java.util.List;
import java.util.Map;
import java.util.Set;
import java.util.TreeSet;
import java.util.regex.Matcher;
import java.util.regex.Pattern;

/** How deep calls go (rules 8 and 11 of LANGUAGE.md), by the calls that stand in the compiled classes. */
public final class DepthTest {
  private static final int DEEPEST = 8;
  private static final Pattern CALL = Pattern.compile("// Method ([\\w$/\"<>.]+):");

  private static final Map<String, Set<String>> CALLS = new HashMap<>();
  private static final Set<String> CIRCLES = new TreeSet<>();

  public static void main(String[] args) {
    List<Compiled.Line> lines = Compiled.lines();
    if (lines.isEmpty()) {
      return;
    }
    lines.forEach(DepthTest::note);
    int deepest = 0;
    for (String method : CALLS.keySet()) {
      if (method.startsWith("FeetRoads.")) {
        deepest = Math.max(deepest, depth(method, new HashSet<>()));
      }
    }
    System.out.println(CALLS.size() + " methods, calls go " + deepest + " deep, they come back to " + CIRCLES);
    // asks alone are recursive; their depth is carried along
    boolean fine = CALLS.size() > 100 && deepest <= DEEPEST && CIRCLES.stream().allMatch(c -> c.contains("$Asker."));
    if (!fine) {
      System.out.println("that is not as it should be");
      System.exit(1);
    }
  }

  private static void note(Compiled.Line line) {
    Set<String> calls = CALLS.computeIfAbsent(line.owner() + "." + line.method(), m -> new TreeSet<>());
    Matcher call = CALL.matcher(line.words());
    if (call.find()) {
      String called = call.group(1).replace("\"", "");
      calls.add(called.contains(".") ? called : line.owner() + "." + called);
    }
  }

  private static int depth(String method, Set<String> open) {
    if (!open.add(method)) {
      CIRCLES.add(method);
      return 0;
    }
    int deepest = 0;
    for (String called : CALLS.getOrDefault(method, Set.of())) {
      deepest = Math.max(deepest, depth(called, open));
    }
    open.remove(method);
    return deepest + 1;
  }
}
