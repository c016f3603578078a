import java.util.List;
import java.util.Set;
import java.util.TreeSet;
import java.util.regex.Matcher;
import java.util.regex.Pattern;

/**
 * Rules 4, 6, 7 and 12 of LANGUAGE.md by the compiled classes: which of the library is called, that nothing is thrown,
 * caught or locked, that each division has its divisor looked at, and that constructors alone make objects and arrays.
 */
public final class LibraryTest {
  private static final Set<String> LIBRARY = Set.of("java/lang/Object.<init>:()V", "java/lang/Math.min:(II)I",
      "java/lang/Integer.bitCount:(I)I", "java/util/Arrays.fill:([II)V",
      "java/lang/System.arraycopy:(Ljava/lang/Object;ILjava/lang/Object;II)V");
  private static final Set<String> NEVER = Set.of("athrow", "monitorenter", "monitorexit", "invokedynamic",
      "checkcast", "drem", "frem", "jsr", "ret");
  private static final Set<String> MAKES = Set.of("new", "newarray", "anewarray", "multianewarray");
  /** Where something is divided; the divisor is a constant above 0 there, or tested against 0 ahead of it. */
  private static final Set<String> DIVIDES = Set.of("FeetRoads$Acts.keep", "FeetRoads$Acts.takeBack",
      "FeetRoads$Seer.introducedTo", "FeetRoads$Seer.snowOdds", "FeetRoads$Seer.commonDivisor");
  private static final Pattern STEP = Pattern.compile(" +\\d+: (\\w+).*");
  private static final Pattern CALL = Pattern.compile("// (?:Interface)?Method ([\\w$/\"<>.]+:\\S+)");

  private static final Set<String> BROKEN = new TreeSet<>();

  public static void main(String[] args) {
    List<Compiled.Line> lines = Compiled.lines();
    lines.forEach(LibraryTest::look);
    System.out.println(lines.size() + " lines, " + BROKEN.size() + " not as they should be");
    BROKEN.forEach(System.out::println);
    if (!BROKEN.isEmpty()) {
      System.exit(1);
    }
  }

  private static void look(Compiled.Line line) {
    String where = line.owner() + "." + line.method();
    if (line.words().contains("Exception table")) {
      BROKEN.add(where + " catches");
    }
    Matcher call = CALL.matcher(line.words());
    if (call.find()) {
      String called = call.group(1).replace("\"", "");
      boolean own = called.startsWith("FeetRoads") || !called.substring(0, called.indexOf(':')).contains(".");
      if (!own && !LIBRARY.contains(called)) {
        BROKEN.add(where + " calls " + called);
      }
    }
    Matcher step = STEP.matcher(line.words());
    if (step.matches()) {
      lookAtStep(where, line.method(), step.group(1));
    }
  }

  private static void lookAtStep(String where, String method, String step) {
    if (NEVER.contains(step)) {
      BROKEN.add(where + " has " + step);
    }
    if (MAKES.contains(step) && !method.equals("<init>") && !method.equals("<clinit>")) {
      BROKEN.add(where + " makes something: " + step);
    }
    boolean divides = step.matches("[il](div|rem)");
    if (divides && !DIVIDES.contains(where)) {
      BROKEN.add(where + " divides");
    }
  }
}
