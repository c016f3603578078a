import java.io.IOException;
import java.lang.reflect.Method;
import java.lang.reflect.Modifier;
import java.nio.file.Files;
import java.nio.file.Path;
import java.util.HashMap;
import java.util.List;
import java.util.Map;
import java.util.Random;
import java.util.Set;
import java.util.TreeMap;
import java.util.TreeSet;
import java.util.function.Supplier;
import java.util.regex.Matcher;
import java.util.regex.Pattern;

/** What README.md says of answers is true: each line of its examples, and its table of calls by random calls. */
public final class ReadmeTest {
  private static final Pattern CALL = Pattern.compile("x\\.(\\w+)\\(([^)]*)\\); +// (-?\\w+): .+");
  private static final Pattern READ = Pattern.compile("read\\(x, \"([^\"]*)\"\\); +// (-?\\w+): .+");
  private static final Pattern TOLD = Pattern.compile("\\| `(\\w+)\\(([^)]*)\\)` \\| (.+?) \\|(?: (.*))? \\|");
  private static final Map<Long, String> NAMES = Map.of(-1000000L, "NONE", -1000001L, "BAD", -1000002L, "STATE",
      -1000003L, "FULL", -1000011L, "NULL", -1000012L, "PLACE", -1000013L, "KIND", -1000014L, "SIZE",
      -1000015L, "STORE");
  private static final int RUNS = 3000, CALLS = 150;

  public static void main(String[] args) throws Exception {
    String page = Files.readString(Path.of("README.md"));
    examples(page);
    meanings(page);
    table(page);
    tests(page);
    Due.end();
  }

  private static long due(String told) {
    for (Map.Entry<Long, String> name : NAMES.entrySet()) {
      if (name.getValue().equals(told)) {
        return name.getKey();
      }
    }
    return Long.parseLong(told);
  }

  private static Map<String, Method> calls() {
    Map<String, Method> calls = new TreeMap<>();
    for (Method m : FeetRoads.class.getDeclaredMethods()) {
      if (Modifier.isPublic(m.getModifiers())) {
        calls.put(m.getName(), m);
      }
    }
    return calls;
  }

  private static long answer(Method call, FeetRoads x, int... numbers) throws ReflectiveOperationException {
    Object[] args = new Object[numbers.length];
    for (int k = 0; k < numbers.length; k++) {
      args[k] = numbers[k];
    }
    return ((Number) call.invoke(x, args)).longValue();
  }

  private static void examples(String page) throws ReflectiveOperationException {
    Map<String, Method> calls = calls();
    FeetRoads x = null;
    int lines = 0;
    int read = 0;
    for (String line : page.split("\n")) {
      Matcher call = CALL.matcher(line);
      Matcher text = READ.matcher(line);
      if (line.equals("FeetRoads x = new FeetRoads();")) {
        x = new FeetRoads();
      } else if (call.matches()) {
        int[] numbers = Pattern.compile(", ").splitAsStream(call.group(2)).filter(s -> !s.isEmpty())
            .mapToInt(Integer::parseInt).toArray();
        Due.is("README: " + line, answer(calls.get(call.group(1)), x, numbers), due(call.group(3)));
        read++;
      } else if (text.matches()) {
        Due.is("README: " + line, Due.fed(x, text.group(1)).land(), due(text.group(2)));
        read++;
      }
      if (line.startsWith("x.") || line.startsWith("read(")) {
        lines++;
      }
    }
    Due.is("lines of README that are examples", read, lines);
    Due.is("there are examples", lines > 50 ? 1 : 0, 1);
  }

  /** The table of meanings names each number, and its bound of asks is the least that an ask can be. */
  private static void meanings(String page) {
    for (Map.Entry<Long, String> name : NAMES.entrySet()) {
      Pattern row = Pattern.compile("\n\\| " + name.getKey() + " \\| .*\\b" + name.getValue() + "\\b.* \\|\n");
      Due.is("README tells " + name.getKey(), row.matcher(page).find() ? 1 : 0, 1);
    }
    long least = 0;
    for (int people = 0; people <= 4; people++) {
      for (int known = 0; known <= 1; known++) {
        for (int k = 0; k < 9; k++) {
          least = Math.min(least, leastAsk(Due.times("h0,1,1;", k), people, known << k));
        }
      }
    }
    Matcher told = Pattern.compile("an `ask\\(\\)` can also be below 0, from (-\\d+) on").matcher(page);
    Due.is("README tells the least ask", told.find() ? Long.parseLong(told.group(1)) : 0, least);
  }

  /** The least of all asks of the road behind others, of each sort. */
  private static long leastAsk(String others, int people, int known) {
    long least = 0;
    for (char sort : new char[] {'l', 'n', 'o', 'h', 'r'}) {
      for (int length = 1; length <= 9; length += 8) {
        FeetRoads x = Due.landOf("f1,2;" + others + sort + "0,1," + length + ";" + Due.times("p0," + known + ";", people));
        int road = x.count(1) - 1;
        least = Math.min(least, Math.min(x.ask(road, 0), x.ask(road, 1)));
      }
    }
    return least;
  }

  private static void table(String page) throws ReflectiveOperationException {
    Map<String, Set<String>> seen = seen();
    Map<String, Method> calls = calls();
    Set<String> told = new TreeSet<>();
    Matcher row = TOLD.matcher(page);
    while (row.find()) {
      String name = row.group(1);
      Method call = calls.get(name);
      told.add(name);
      int parameters = row.group(2).isEmpty() ? 0 : row.group(2).split(", ").length;
      Due.is("README's " + name, call == null ? -1 : call.getParameterCount(), parameters);
      String words = row.group(4) == null ? "" : row.group(4).trim();
      Set<String> due = words.isEmpty() ? Set.of() : new TreeSet<>(List.of(words.split(", ")));
      boolean same = due.equals(seen.get(name));
      Due.is("README's " + name + " else " + due + ", seen " + seen.get(name), same ? 1 : 0, 1);
    }
    Due.is("README tells of all calls: " + told, told.equals(calls.keySet()) ? 1 : 0, 1);
  }

  private static FeetRoads late() {
    return Due.days(Due.town(), 997);
  }

  private static FeetRoads nearlyFull() {
    return Due.fed(Due.town(), Due.times("x", 115));
  }

  private static FeetRoads apart() {
    return Due.landOf("f1,5;l0,1,1;l2,3,1;p0,3;p2,3;");
  }

  /** What each call was seen to answer beside its own numbers. */
  private static Map<String, Set<String>> seen() throws ReflectiveOperationException {
    List<Supplier<FeetRoads>> makers = List.of(FeetRoads::new, Due::town, Twins::busy, Document::mill, ReadmeTest::late,
        ReadmeTest::nearlyFull, ReadmeTest::apart);
    Map<String, Set<String>> seen = new HashMap<>();
    Method[] calls = calls().values().toArray(new Method[0]);
    for (Method call : calls) {
      seen.put(call.getName(), new TreeSet<>());
    }
    Random random = new Random(7);
    for (int run = 0; run < RUNS; run++) {
      FeetRoads x = makers.get(run % makers.size()).get();
      for (int k = 0; k < CALLS; k++) {
        Method call = calls[random.nextInt(calls.length)];
        int[] numbers = new int[call.getParameterCount()];
        for (int i = 0; i < numbers.length; i++) {
          numbers[i] = random.nextInt(30) == 0 ? random.nextInt(300) : random.nextInt(6) - (random.nextInt(9) == 0 ? 1 : 0);
        }
        note(seen.get(call.getName()), answer(call, x, numbers));
      }
    }
    return seen;
  }

  private static void note(Set<String> seen, long answer) {
    if (answer <= -1000100) {
      seen.add("a fault");
    } else if (answer <= -1000000) {
      seen.add(NAMES.getOrDefault(answer, "a number without a name: " + answer));
    }
  }

  /** Each test that the page names is there, and each that is there is named. */
  private static void tests(String page) throws IOException {
    try (var files = Files.list(Path.of("src/test/java"))) {
      files.map(f -> f.getFileName().toString()).filter(f -> f.endsWith("Test.java")).forEach(f -> Due.is("README tells of "
          + f, page.contains("`" + f.replace(".java", "") + "`") ? 1 : 0, 1));
    }
    Matcher named = Pattern.compile("`(\\w+Test)`").matcher(page);
    while (named.find()) {
      Due.is("README's " + named.group(1), Files.exists(Path.of("src/test/java", named.group(1) + ".java")) ? 1 : 0, 1);
    }
  }
}
