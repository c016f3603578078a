import java.io.PrintWriter;
import java.io.StringWriter;
import java.net.URL;
import java.util.ArrayList;
import java.util.List;
import java.util.regex.Matcher;
import java.util.regex.Pattern;
import java.util.spi.ToolProvider;

/** The class and those inside it as they are compiled, line by line, each with the method in which it stands. */
final class Compiled {
  private static final Pattern HEAD = Pattern.compile("  (?:[a-z]+ )*(?:[\\w.$\\[\\]]+ )?([\\w$]+)\\(.*\\);");
  private static final String STATICS = "  static {};";

  private Compiled() {
  }

  record Line(String owner, String method, String words) {
  }

  /** No lines where there is no javap. */
  static List<Line> lines() {
    List<Line> lines = new ArrayList<>();
    ToolProvider javap = ToolProvider.findFirst("javap").orElse(null);
    if (javap == null) {
      System.out.println("there is no javap here: the compiled classes are not looked at");
      return lines;
    }
    add(lines, javap, FeetRoads.class);
    for (Class<?> inside : FeetRoads.class.getDeclaredClasses()) {
      add(lines, javap, inside);
    }
    return lines;
  }

  private static void add(List<Line> lines, ToolProvider javap, Class<?> c) {
    StringWriter told = new StringWriter();
    URL file = c.getResource(c.getName() + ".class");
    javap.run(new PrintWriter(told), new PrintWriter(told), "-p", "-c", file.toString());
    String method = "";
    for (String line : told.toString().split("\n")) {
      Matcher head = HEAD.matcher(line);
      if (head.matches()) {
        // a constructor bears the name of its class
        method = head.group(1).equals(c.getName()) ? "<init>" : head.group(1);
      } else if (line.equals(STATICS)) {
        method = "<clinit>";
      }
      lines.add(new Line(c.getName(), method, line));
    }
  }
}
