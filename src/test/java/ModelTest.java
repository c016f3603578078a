import java.util.Random;

/** Random runs of calls: the class against the plain model. The seeds are fixed, so every run is the same. */
public final class ModelTest {
  private static final int RUNS = 1500, CALLS = 512;

  private final Random random;
  private final FeetRoads x = new FeetRoads();
  private final PlainModel m = new PlainModel();
  private final StringBuilder told = new StringBuilder();
  private int calls = 0;

  private ModelTest(long seed) {
    random = new Random(seed);
  }

  public static void main(String[] args) {
    int wrongRuns = 0;
    for (int seed = 1; seed <= RUNS && wrongRuns < 5; seed++) {
      ModelTest run = new ModelTest(seed);
      if (!run.goes()) {
        wrongRuns++;
        System.out.println("seed " + seed + ":\n" + run.told);
      }
    }
    System.out.println(wrongRuns == 0 ? RUNS + " runs are as the model's" : "runs are not as the model's");
    if (wrongRuns != 0) {
      System.exit(1);
    }
  }

  private boolean same(String call, long got, long want) {
    calls++;
    told.append(call).append(" = ").append(got).append('\n');
    if (got == want) {
      return true;
    }
    told.append("  due is ").append(want).append('\n');
    return false;
  }

  private boolean goes() {
    boolean fine = true;
    while (fine && calls < CALLS) {
      int choice = random.nextInt(100);
      if (choice < 3 || calls == 0) {
        fine = text();
      } else if (choice < 45) {
        fine = act();
      } else if (choice < 60) {
        fine = rows();
      } else {
        fine = foretold();
      }
    }
    return fine;
  }

  /** Mostly within 0 .. most - 1, sometimes beside it. */
  private int some(int most) {
    int r = random.nextInt(40);
    if (r == 0) {
      return -1;
    }
    if (r == 1) {
      return most;
    }
    if (r == 2) {
      return random.nextInt();
    }
    return random.nextInt(most);
  }

  private int who() {
    return some(Math.max(1, x.count(2)));
  }

  private int road() {
    return some(Math.max(1, x.count(1)));
  }

  private int place() {
    return some(Math.max(1, x.count(3)));
  }

  private String landText() {
    StringBuilder t = new StringBuilder();
    int places = 2 + random.nextInt(7);
    int roads = random.nextInt(4) == 0 ? random.nextInt(11) : 5 + random.nextInt(5);
    int people = random.nextInt(6) == 0 ? random.nextInt(6) : 2 + random.nextInt(3);
    t.append('f').append(1 + random.nextInt(random.nextInt(3) == 0 ? 30 : 4)).append(',').append(places).append(';');
    String sorts = random.nextBoolean() ? "lnohr" : "llnnoohr";
    for (int r = 0; r < roads; r++) {
      int a = random.nextInt(places);
      int b = (a + 1 + random.nextInt(places - 1)) % places;
      t.append(sorts.charAt(random.nextInt(sorts.length())));
      t.append(a).append(',').append(b).append(',').append(1 + random.nextInt(9)).append(';');
    }
    for (int p = 0; p < people; p++) {
      t.append('p').append(random.nextInt(places)).append(',').append(random.nextInt(1 << Math.min(roads, 9))).append(';');
    }
    if (random.nextInt(4) == 0) {
      String odd = "fplnohrxz,;0123456789 A/:" + (char) 0 + (char) 255;
      for (int k = random.nextInt(3); k >= 0 && t.length() > 0; k--) {
        int at = random.nextInt(t.length());
        switch (random.nextInt(4)) {
          case 0 -> t.setCharAt(at, odd.charAt(random.nextInt(odd.length())));
          case 1 -> t.insert(at, odd.charAt(random.nextInt(odd.length())));
          case 2 -> t.deleteCharAt(at);
          default -> t.setLength(Math.max(1, at));
        }
      }
    }
    return t.toString();
  }

  private boolean text() {
    String t = landText();
    boolean fine = true;
    for (int i = 0; i < t.length() && fine; i++) {
      fine = same("feed(" + (int) t.charAt(i) + ")", x.feed(t.charAt(i)), m.feed(t.charAt(i)));
    }
    int odd = some(256);
    if (random.nextInt(20) == 0 && fine) {
      fine = same("feed(" + odd + ")", x.feed(odd), m.feed(odd));
    }
    return fine && same("count(8)", x.count(8), m.count(8)) && same("land() " + t, x.land(), m.land())
        && same("fault()", x.fault(), m.fault()) && counts();
  }

  private boolean counts() {
    boolean fine = true;
    for (int k = -1; k <= 9 && fine; k++) {
      fine = same("count(" + k + ")", x.count(k), m.count(k));
    }
    return fine;
  }

  private boolean act() {
    int a = who(), b = who(), r = road();
    return switch (random.nextInt(14)) {
      case 0, 1, 2, 3, 4 -> same("walk(" + a + ", " + r + ")", x.walk(a, r), m.walk(a, r));
      case 5, 6, 7, 8 -> same("lead(" + a + ", " + b + ", " + r + ")", x.lead(a, b, r), m.lead(a, b, r));
      case 9 -> same("change(" + a + ", " + b + ")", x.change(a, b), m.change(a, b));
      case 10 -> random.nextInt(3) > 0 || same("heels(" + a + ")", x.heels(a), m.heels(a));
      case 11 -> same("day()", x.day(), m.day());
      case 12 -> same("undo()", x.undo(), m.undo());
      default -> imageOrRestore();
    };
  }

  private boolean imageOrRestore() {
    int k = some(2);
    return random.nextBoolean()
        ? same("image(" + k + ")", x.image(k), m.image(k))
        : same("restore(" + k + ")", x.restore(k), m.restore(k));
  }

  private boolean rows() {
    int a = some(random.nextBoolean() ? 3 : 8), b = some(3), i = some(20), j = some(20), n = some(17), lane = some(3);
    int v = random.nextBoolean() ? road() : random.nextInt(), place = place();
    boolean fine = switch (random.nextInt(9)) {
      case 0 -> {
        int size = random.nextInt(4) == 0 ? some(41) : 20 + random.nextInt(20);
        yield same("row(" + a + ", " + lane + ", " + size + ")", x.row(a, lane, size), m.row(a, lane, size));
      }
      case 1, 2 -> same("set(" + a + ", " + i + ", " + v + ")", x.set(a, i, v), m.set(a, i, v));
      case 3 -> same("copy(" + a + ", " + i + ", " + b + ", " + j + ", " + n + ")", x.copy(a, i, b, j, n),
          m.copy(a, i, b, j, n));
      case 4 -> random.nextInt(3) > 0 || same("drop(" + a + ")", x.drop(a), m.drop(a));
      case 5, 6 -> wander(a, Math.abs(i % 20), Math.abs(n % 17), place);
      default -> same("whose(" + a + ", " + i + ", " + n % 4 + ", " + place + ")", x.whose(a, i, n % 4, place),
          m.whose(a, i, n % 4, place));
    };
    return fine && same("status()", x.status(), m.status());
  }

  /** Sets roads that do go on one behind another, then asks whose soles went over them. */
  private boolean wander(int row, int i, int n, int from) {
    boolean fine = true;
    int at = from, k = 0;
    for (; k < n && fine; k++) {
      int next = -1;
      for (int tries = 0; tries < 30 && next < 0; tries++) {
        int r = random.nextInt(9);
        if (x.road(r, 0) == at || x.road(r, 1) == at) {
          next = r;
        }
      }
      if (next < 0) {
        break;
      }
      fine = same("set(" + row + ", " + (i + k) + ", " + next + ")", x.set(row, i + k, next), m.set(row, i + k, next));
      at = x.road(next, 0) == at ? x.road(next, 1) : x.road(next, 0);
    }
    return fine && same("whose(" + row + ", " + i + ", " + k + ", " + from + ")", x.whose(row, i, k, from),
        m.whose(row, i, k, from));
  }

  private boolean foretold() {
    int a = who(), b = who(), r = road(), p = place(), w = some(2), c = some(11), d = some(100), q = some(4);
    return switch (random.nextInt(20)) {
      case 0 -> same("person(" + a + ", " + q + ")", x.person(a, q), m.person(a, q));
      case 1 -> same("road(" + r + ", " + q + ")", x.road(r, q), m.road(r, q));
      case 2 -> same("met(" + r + ", " + a + ", " + w + ")", x.met(r, a, w), m.met(r, a, w));
      case 3 -> same("reach(" + a + ")", x.reach(a), m.reach(a));
      case 4 -> same("way(" + a + ", " + p + ")", x.way(a, p), m.way(a, p));
      case 5 -> same("led(" + a + ", " + b + ", " + p + ")", x.led(a, b, p), m.led(a, b, p));
      case 6, 7 -> same("introduced(" + a + ", " + p + ", " + w + ")", x.introduced(a, p, w), m.introduced(a, p, w));
      case 8 -> same("forgets()", x.forgets(), m.forgets());
      case 9 -> same("nobody(" + d % 10 + ")", x.nobody(d % 10), m.nobody(d % 10));
      case 10 -> same("nobody(" + d + ")", x.nobody(d), m.nobody(d));
      case 11, 12 -> same("round(" + a + ")", x.round(a), m.round(a));
      case 13 -> same("bars(" + a + ", " + p + ", " + w + ")", x.bars(a, p, w), m.bars(a, p, w));
      case 14, 15 -> same("meet(" + a + ", " + b + ", " + w + ")", x.meet(a, b, w), m.meet(a, b, w));
      case 16 -> same("snow(" + a + ", " + p + ", " + c + ", " + w + ")", x.snow(a, p, c, w), m.snow(a, p, c, w));
      case 17 -> same("kind(" + r + ")", x.kind(r), m.kind(r))
          && same("as(" + r + ", " + c + ")", x.as(r, c % 6), m.as(r, c % 6)) && same("status()", x.status(), m.status());
      case 18 -> asks(r, w);
      default -> counts();
    };
  }

  private boolean asks(int road, int what) {
    boolean fine = same("ask(" + road + ", " + what + ")", x.ask(road, what), m.ask(road, what));
    for (int i = -1; i < 8 && fine; i++) {
      fine = same("trace(" + i + ")", x.trace(i), m.trace(i));
    }
    return fine;
  }
}
