import java.io.IOException;
import java.lang.reflect.Method;
import java.lang.reflect.Modifier;
import java.nio.file.Files;
import java.nio.file.Path;
import java.util.Arrays;
import java.util.regex.Matcher;
import java.util.regex.Pattern;

/** The words of ../shared/DOC.md that the tests have come to, in their order, so that none is left out. */
final class Document {
  /** A land whose answers are worked out by hand: five places, one road of each kind and a lane more. */
  static final String MILL = "f2,5;l0,1,2;n1,2,3;o2,3,4;h0,3,9;r3,4,5;l0,2,6;p0,7;p1,33;p3,16;";

  private static final Path FILE = Path.of("../shared/DOC.md");
  private static final Pattern CALL = Pattern.compile("public (int|long) (\\w+)\\((.*)\\);");
  private static final StringBuilder SAID = new StringBuilder();

  private Document() {
  }

  /** What stands below it in the test is what these words of the document ask for. */
  static void says(String words) {
    SAID.append(bare(words));
  }

  /** A line of the public face: the class has that call. */
  static void face(String line) {
    says(line);
    Matcher m = CALL.matcher(line);
    Due.is("a call: " + line, m.matches() ? 1 : 0, 1);
    String[] named = m.group(3).isEmpty() ? new String[0] : m.group(3).split(", ");
    Class<?>[] types = new Class<?>[named.length];
    Arrays.fill(types, int.class);
    Due.is("takes ints: " + line, Arrays.stream(named).allMatch(n -> n.matches("int \\w+")) ? 1 : 0, 1);
    try {
      Method call = FeetRoads.class.getDeclaredMethod(m.group(2), types);
      Due.is("public: " + line, Modifier.isPublic(call.getModifiers()) ? 1 : 0, 1);
      Due.is("answers: " + line, call.getReturnType().getName().equals(m.group(1)) ? 1 : 0, 1);
    } catch (NoSuchMethodException e) {
      Due.is("the class has " + line, 0, 1);
    }
  }

  /** The class says the heading ahead of these calls, and no other one among them. */
  static void heading(String words, String... calls) {
    String text = source();
    int begins = text.indexOf("// ---- " + words + "\n");
    int ends = text.indexOf("// ---- ", begins + 1);
    String below = begins < 0 ? "" : ends < 0 ? text.substring(begins) : text.substring(begins, ends);
    StringBuilder order = new StringBuilder();
    Matcher m = Pattern.compile("\n    public \\w+ (\\w+)\\(").matcher(below);
    while (m.find()) {
      order.append(m.group(1)).append(' ');
    }
    Due.is("---- " + words + ": " + order, order.toString().trim().equals(String.join(" ", calls)) ? 1 : 0, 1);
  }

  private static String source() {
    try {
      return Files.readString(Path.of("src/main/java/FeetRoads.java"));
    } catch (IOException e) {
      return "";
    }
  }

  static FeetRoads mill() {
    return Due.landOf(MILL);
  }

  /** A new object with the mill's land and a row of bytes with these items. */
  static FeetRoads millWithRow(int... items) {
    FeetRoads x = mill();
    x.row(0, 0, items.length);
    for (int i = 0; i < items.length; i++) {
      x.set(0, i, items[i]);
    }
    return x;
  }

  private static String bare(String words) {
    return words.replaceAll("\\s+", "");
  }

  /** All that the document says, from its first word to its last, was come to. */
  static void end() throws IOException {
    if (!Files.exists(FILE)) {
      System.out.println("there is no " + FILE + " here: its words are not looked at");
      return;
    }
    String due = bare(Files.readString(FILE));
    int at = 0;
    while (at < Math.min(due.length(), SAID.length()) && due.charAt(at) == SAID.charAt(at)) {
      at++;
    }
    boolean all = at == due.length() && at == SAID.length();
    if (!all) {
      System.out.println("the document says: " + due.substring(at, Math.min(due.length(), at + 80)));
      System.out.println("the tests say:     " + SAID.substring(at, Math.min(SAID.length(), at + 80)));
    }
    Due.is("all words of the document", all ? 1 : 0, 1);
  }
}
