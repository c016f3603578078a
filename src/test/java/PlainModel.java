import java.math.BigInteger;
import java.util.ArrayDeque;
import java.util.ArrayList;
import java.util.Arrays;
import java.util.Deque;
import java.util.HashMap;
import java.util.List;
import java.util.Map;
import java.util.PriorityQueue;

/** A second telling of the document, written for plainness: lists of meetings, all simple ways, whole copies. */
final class PlainModel {
  static final int NONE = -1000000, BAD = -1000001, STATE = -1000002, FULL = -1000003;
  private static final String SORTS = "?lnohr";

  record Road(int kind, int a, int b, int length) {
    int over(int from) {
      return from == a ? b : from == b ? a : -1;
    }
  }

  /** A land; every change makes a new one. */
  private static final class Land {
    int fade, places, day, spent;
    List<Road> roads = new ArrayList<>();
    List<Integer> at = new ArrayList<>(), soles = new ArrayList<>();
    Map<Integer, List<Integer>> meetings = new HashMap<>();

    Land twin() {
      Land l = new Land();
      l.fade = fade;
      l.places = places;
      l.day = day;
      l.spent = spent;
      l.roads = new ArrayList<>(roads);
      l.at = new ArrayList<>(at);
      l.soles = new ArrayList<>(soles);
      meetings.forEach((k, v) -> l.meetings.put(k, new ArrayList<>(v)));
      return l;
    }

    List<Integer> days(int road, int sole) {
      return meetings.computeIfAbsent(road * 100 + sole, k -> new ArrayList<>());
    }

    boolean opens(int road, int sole, int ahead) {
      List<Integer> days = days(road, sole);
      return switch (roads.get(road).kind) {
        case 1 -> days.stream().anyMatch(d -> d >= day + ahead - fade);
        case 2 -> days.stream().anyMatch(d -> d >= day + ahead - fade) && days.size() >= 2;
        case 3 -> days.stream().anyMatch(d -> d >= day + ahead - 2 * fade);
        default -> true;
      };
    }

    void go(int who, int road) {
      Road r = roads.get(road);
      at.set(who, r.over(at.get(who)));
      if (r.kind == 5) {
        spent += r.length;
      } else {
        days(road, soles.get(who)).add(day);
      }
    }
  }

  private record Row(int lane, int[] items) {
  }

  private final Row[] rows = new Row[8];
  private final StringBuilder tape = new StringBuilder();
  private Land land = null;
  private final Deque<Land> past = new ArrayDeque<>();
  private final Land[] images = new Land[2];
  private List<Integer> trace = new ArrayList<>();
  private int fault = 0, status = 0;

  private int found(int number) {
    status = number;
    return -1000010 - number;
  }

  private int ok(int v) {
    status = 0;
    return v;
  }

  int row(int row, int lane, int n) {
    if (row < 0 || row > 7 || lane < 0 || lane > 2 || n > 40) return BAD;
    if (n < 0) return found(4);
    rows[row] = new Row(lane, new int[n]);
    return ok(n);
  }

  int set(int row, int i, int v) {
    if (row < 0 || row > 7) return BAD;
    if (rows[row] == null) return found(1);
    if (i < 0 || i >= rows[row].items.length) return found(2);
    int bits = 8 << rows[row].lane;
    int cut = (int) ((long) v << 64 - bits >> 64 - bits);
    rows[row].items[i] = cut;
    return ok(cut);
  }

  int copy(int a, int i, int b, int j, int n) {
    if (a < 0 || a > 7 || b < 0 || b > 7) return BAD;
    if (rows[a] == null || rows[b] == null) return found(1);
    if (rows[a].lane != rows[b].lane) return found(5);
    if (i < 0 || j < 0 || n < 0 || (long) i + n > rows[a].items.length || (long) j + n > rows[b].items.length) {
      return found(2);
    }
    int[] ahead = rows[a].items.clone();
    for (int k = 0; k < n; k++) rows[b].items[j + k] = ahead[i + k];
    return ok(n);
  }

  int drop(int row) {
    if (row < 0 || row > 7) return BAD;
    if (rows[row] == null) return found(1);
    int had = rows[row].items.length;
    rows[row] = null;
    return ok(had);
  }

  int feed(int letter) {
    if (letter < 0 || letter > 255) return BAD;
    if (tape.length() == 120) return FULL;
    tape.append((char) letter);
    return tape.length();
  }

  /** Reads by a table of what is due: each step a token's kind with its bounds. */
  int land() {
    String text = tape.toString();
    tape.setLength(0);
    Land made = new Land();
    int p = 0, step = 0;
    int[] held = new int[4];
    char part = '^';
    // what is due in a part: letters stand for numbers of that meaning
    Map<Character, String> forms = Map.of('f', "F,P;", 'p', "A,K;", 'r', "A,B,L;");
    String form = "";
    boolean people = false;
    int kind = 0;
    while (true) {
      String token = tokenAt(text, p);
      int number = token.matches("[0-9]{1,3}") ? Integer.parseInt(token) : -1;
      int wrong = 0;
      if (step == form.length()) {
        boolean first = part == '^';
        if (token.isEmpty() && !first) break;
        int sort = token.isEmpty() ? -1 : SORTS.indexOf(token);
        if (first) wrong = token.equals("f") ? 0 : 1;
        else if (token.equals("p")) wrong = made.at.size() == 4 ? 3 : 0;
        else if (sort >= 1 && !people) wrong = made.roads.size() == 9 ? 3 : 0;
        else wrong = 1;
        if (wrong == 0) {
          kind = sort;
          part = first ? 'f' : token.equals("p") ? 'p' : 'r';
          people |= part == 'p';
          form = forms.get(part);
          step = 0;
        }
      } else {
        char due = form.charAt(step);
        if (due == ',' || due == ';') wrong = token.equals("" + due) ? 0 : 1;
        else if (number < 0) wrong = 1;
        else wrong = asTold(due, number, made, held) ? 0 : 2;
        if (wrong == 0) {
          if (number >= 0) held[step / 2] = number;
          step++;
          if (step == form.length()) add(made, part, kind, held);
        }
      }
      if (wrong != 0) {
        fault = wrong;
        return -1000100 - p;
      }
      p += token.length();
    }
    land = made;
    past.clear();
    return made.at.size();
  }

  private static String tokenAt(String text, int p) {
    int e = p;
    while (e < text.length() && Character.isDigit(text.charAt(e)) && text.charAt(e) < 128) e++;
    return e > p ? text.substring(p, e) : text.substring(p, Math.min(p + 1, text.length()));
  }

  private static boolean asTold(char due, int v, Land made, int[] held) {
    return switch (due) {
      case 'F' -> v >= 1 && v <= 30;
      case 'P' -> v >= 2 && v <= 8;
      case 'A' -> v < made.places;
      case 'B' -> v < made.places && v != held[0];
      case 'L' -> v >= 1 && v <= 9;
      default -> v < Math.pow(2, made.roads.size());
    };
  }

  private static void add(Land made, char part, int kind, int[] held) {
    if (part == 'f') {
      made.fade = held[0];
      made.places = held[1];
    } else if (part == 'r') {
      made.roads.add(new Road(kind, held[0], held[1], held[2]));
    } else {
      int who = made.at.size();
      made.at.add(held[0]);
      made.soles.add(who);
      for (int r = 0; r < made.roads.size(); r++) {
        if (BigInteger.valueOf(held[1]).testBit(r) && made.roads.get(r).kind != 5) {
          made.days(r, who).addAll(List.of(0, 0));
        }
      }
    }
  }

  int fault() {
    return fault;
  }

  private boolean who(int person) {
    return land != null && person >= 0 && person < land.at.size();
  }

  private boolean isRoad(int road) {
    return land != null && road >= 0 && road < land.roads.size();
  }

  private boolean isPlace(int place) {
    return land != null && place >= 0 && place < land.places;
  }

  private void act() {
    past.addLast(land);
    if (past.size() > 24) past.removeFirst();
    land = land.twin();
  }

  int walk(int person, int road) {
    if (!who(person) || !isRoad(road)) return BAD;
    if (land.roads.get(road).over(land.at.get(person)) < 0) return STATE;
    if (!land.opens(road, land.soles.get(person), 0)) return STATE;
    act();
    land.go(person, road);
    return land.at.get(person);
  }

  int lead(int person, int other, int road) {
    if (!who(person) || !who(other) || person == other || !isRoad(road)) return BAD;
    if (land.roads.get(road).over(land.at.get(person)) < 0) return STATE;
    if (land.at.get(person).intValue() != land.at.get(other).intValue()) return STATE;
    if (!land.opens(road, land.soles.get(person), 0)) return STATE;
    act();
    land.go(person, road);
    land.go(other, road);
    return land.at.get(other);
  }

  int change(int person, int other) {
    if (!who(person) || !who(other) || person == other) return BAD;
    act();
    java.util.Collections.swap(land.soles, person, other);
    return land.soles.get(person);
  }

  int heels(int person) {
    if (!who(person)) return BAD;
    act();
    int had = 0;
    for (int r = 0; r < land.roads.size(); r++) {
      if (!land.days(r, land.soles.get(person)).isEmpty()) had++;
      land.days(r, land.soles.get(person)).clear();
    }
    return had;
  }

  int day() {
    if (land == null) return STATE;
    if (land.day == 999) return FULL;
    act();
    land.day++;
    return land.day;
  }

  int undo() {
    if (past.isEmpty()) return STATE;
    land = past.removeLast();
    return past.size();
  }

  int person(int person, int what) {
    if (!who(person) || what < 0 || what > 2) return BAD;
    if (what == 0) return land.at.get(person);
    return what == 1 ? land.soles.get(person) : bits(openTo(person));
  }

  private List<Integer> openTo(int person) {
    List<Integer> open = new ArrayList<>();
    for (int r = 0; r < land.roads.size(); r++) {
      if (land.opens(r, land.soles.get(person), 0)) open.add(r);
    }
    return open;
  }

  private static int bits(Iterable<Integer> set) {
    int b = 0;
    for (int i : set) b |= 1 << i;
    return b;
  }

  private List<Integer> solesOf(int road, int ahead) {
    List<Integer> list = new ArrayList<>();
    for (int s = 0; s < land.at.size(); s++) if (land.opens(road, s, ahead)) list.add(s);
    return list;
  }

  int road(int road, int what) {
    if (!isRoad(road) || what < 0 || what > 3) return BAD;
    Road r = land.roads.get(road);
    return what == 0 ? r.a : what == 1 ? r.b : what == 2 ? r.length : bits(solesOf(road, 0));
  }

  int met(int road, int sole, int what) {
    if (!isRoad(road) || !who(sole) || what < 0 || what > 1) return BAD;
    List<Integer> days = land.days(road, sole);
    return what == 0 ? days.size() : days.isEmpty() ? NONE : days.get(days.size() - 1);
  }

  /** All simple ways to all places, each told as {closed roads on it, its length}; the best of each place. */
  private int[][] best(int from, List<Integer> usable, List<Integer> open) {
    int[][] best = new int[land.places][];
    simple(from, new boolean[land.places], new int[] {0, 0}, usable, open, best);
    return best;
  }

  private void simple(int p, boolean[] seen, int[] so, List<Integer> usable, List<Integer> open, int[][] best) {
    if (best[p] == null || so[0] < best[p][0] || so[0] == best[p][0] && so[1] < best[p][1]) best[p] = so;
    seen[p] = true;
    for (int r : usable) {
      int q = land.roads.get(r).over(p);
      if (q >= 0 && !seen[q]) {
        int[] then = {so[0] + (open.contains(r) ? 0 : 1), so[1] + land.roads.get(r).length};
        simple(q, seen, then, usable, open, best);
      }
    }
    seen[p] = false;
  }

  private int[][] ways(int person) {
    return best(land.at.get(person), openTo(person), openTo(person));
  }

  int reach(int person) {
    if (!who(person)) return BAD;
    int[][] ways = ways(person);
    int b = 0;
    for (int p = 0; p < land.places; p++) if (ways[p] != null) b += 1 << p;
    return b;
  }

  int way(int person, int place) {
    if (!who(person) || !isPlace(place)) return BAD;
    int[] w = ways(person)[place];
    return w == null ? NONE : w[1];
  }

  int led(int person, int other, int place) {
    if (!who(person) || !who(other) || person == other || !isPlace(place)) return BAD;
    List<Integer> both = new ArrayList<>(openTo(person));
    for (int r : openTo(other)) if (!both.contains(r)) both.add(r);
    int[] w = best(land.at.get(person), both, both)[place];
    return w == null ? NONE : w[1];
  }

  int introduced(int person, int place, int what) {
    if (!who(person) || !isPlace(place) || what < 0 || what > 1) return BAD;
    List<Integer> all = new ArrayList<>();
    for (int r = 0; r < land.roads.size(); r++) all.add(r);
    int[] w = best(land.at.get(person), all, openTo(person))[place];
    return w == null ? NONE : w[what];
  }

  int forgets() {
    if (land == null) return STATE;
    for (int d = 1; d <= 61; d++) {
      for (int r = 0; r < land.roads.size(); r++) {
        for (int s : solesOf(r, 0)) if (!land.opens(r, s, d)) return d;
      }
    }
    return NONE;
  }

  int nobody(int d) {
    if (land == null) return STATE;
    if (d < 0 || d > 99) return BAD;
    List<Integer> list = new ArrayList<>();
    for (int r = 0; r < land.roads.size(); r++) {
      if (land.roads.get(r).kind <= 3 && solesOf(r, d).isEmpty()) list.add(r);
    }
    return bits(list);
  }

  /** Dijkstra over places with the roads gone over. */
  int round(int person) {
    if (!who(person)) return BAD;
    int home = land.at.get(person), want = 0;
    List<Integer> open = openTo(person);
    for (int r : open) if (land.roads.get(r).kind <= 3) want |= 1 << r;
    Map<Integer, Integer> far = new HashMap<>();
    PriorityQueue<int[]> queue = new PriorityQueue<>((x, y) -> x[0] - y[0]);
    queue.add(new int[] {0, home, 0});
    while (!queue.isEmpty()) {
      int[] q = queue.remove();
      if (q[1] == home && q[2] == want) return q[0];
      if (far.putIfAbsent(q[1] * 1000 + q[2], q[0]) != null) continue;
      for (int r : open) {
        int to = land.roads.get(r).over(q[1]);
        if (to >= 0) queue.add(new int[] {q[0] + land.roads.get(r).length, to, q[2] | 1 << r & want});
      }
    }
    return NONE;
  }

  int bars(int person, int place, int what) {
    if (!who(person) || !isPlace(place) || what < 0 || what > 1) return BAD;
    int from = land.at.get(person);
    if (from == place) return NONE;
    for (int n = 0; n <= 9; n++) {
      for (int b = 0; b < 512; b++) {
        if (Integer.bitCount(b) != n) continue;
        List<Integer> left = new ArrayList<>();
        for (int r : openTo(person)) if ((b & 1 << r) == 0) left.add(r);
        if (!joined(from, place, left)) return what == 0 ? n : b;
      }
    }
    return NONE;
  }

  private boolean joined(int from, int to, List<Integer> roads) {
    int[] group = new int[land.places];
    for (int p = 0; p < group.length; p++) group[p] = p;
    for (int r : roads) {
      int ga = group[land.roads.get(r).a], gb = group[land.roads.get(r).b];
      for (int p = 0; p < group.length; p++) if (group[p] == ga) group[p] = gb;
    }
    return group[from] == group[to];
  }

  int meet(int person, int other, int what) {
    if (!who(person) || !who(other) || person == other || what < 0 || what > 1) return BAD;
    int[][] a = ways(person), b = ways(other);
    int[] best = null;
    for (int p = 0; p < land.places; p++) {
      if (a[p] == null || b[p] == null) continue;
      int sum = a[p][1] + b[p][1];
      if (best == null || sum < best[1]) best = new int[] {p, sum};
    }
    return best == null ? NONE : best[what];
  }

  /** Each sole really goes, on a copy of the land. */
  int whose(int row, int i, int n, int place) {
    if (land == null) return STATE;
    if (row < 0 || row > 7 || n < 0 || n > 16 || !isPlace(place)) return BAD;
    if (rows[row] == null) return found(1);
    if (i < 0 || (long) i + n > rows[row].items.length) return found(2);
    int soles = 0;
    int p = place;
    for (int k = 0; k < n; k++) {
      int r = rows[row].items[i + k];
      if (!isRoad(r) || land.roads.get(r).over(p) < 0) return BAD;
      p = land.roads.get(r).over(p);
    }
    for (int s = 0; s < land.at.size(); s++) {
      Land l = land.twin();
      boolean can = true;
      for (int k = 0; k < n && can; k++) {
        int r = rows[row].items[i + k];
        can = l.opens(r, s, 0);
        if (l.roads.get(r).kind != 5) l.days(r, s).add(l.day);
      }
      if (can) soles |= 1 << s;
    }
    return ok(soles);
  }

  long snow(int person, int place, int c, int what) {
    if (!who(person) || !isPlace(place) || c < 0 || c > 10 || what < 0 || what > 1) return BAD;
    BigInteger above = odds(land.at.get(person), place, c, openTo(person), 0, new ArrayList<>());
    BigInteger below = BigInteger.TEN.pow(openTo(person).size());
    BigInteger g = above.gcd(below);
    return (what == 0 ? above : below).divide(g).longValueExact();
  }

  private BigInteger odds(int from, int to, int c, List<Integer> open, int k, List<Integer> clear) {
    if (k == open.size()) return joined(from, to, clear) ? BigInteger.ONE : BigInteger.ZERO;
    BigInteger closed = odds(from, to, c, open, k + 1, clear).multiply(BigInteger.valueOf(c));
    List<Integer> more = new ArrayList<>(clear);
    more.add(open.get(k));
    return closed.add(odds(from, to, c, open, k + 1, more).multiply(BigInteger.valueOf(10 - c)));
  }

  int image(int k) {
    if (k != 0 && k != 1) return BAD;
    if (land == null) return STATE;
    images[k] = land.twin();
    return 1;
  }

  int restore(int k) {
    if (k != 0 && k != 1) return BAD;
    if (images[k] == null) return STATE;
    land = images[k].twin();
    past.clear();
    return 1;
  }

  int kind(int road) {
    return isRoad(road) ? land.roads.get(road).kind : BAD;
  }

  int as(int road, int kind) {
    if (!isRoad(road) || kind < 0 || kind > 5) return BAD;
    List<List<Integer>> kinds = List.of(List.of(0), List.of(0, 1), List.of(0, 1, 2), List.of(0, 1, 3), List.of(0, 4),
        List.of(0, 4, 5));
    return kinds.get(land.roads.get(road).kind).contains(kind) ? ok(road) : found(3);
  }

  /** The bodies as overridden methods. */
  private interface Asked {
    PlainModel model();

    int number();

    default int size() {
      model().trace.add(10);
      return model().land.roads.get(number()).length;
    }

    default int mark() {
      model().trace.add(20);
      return number();
    }
  }

  private static class Lane implements Asked {
    final PlainModel model;
    final int number;

    Lane(PlainModel model, int number) {
      this.model = model;
      this.number = number;
    }

    public PlainModel model() {
      return model;
    }

    public int number() {
      return number;
    }

    public int size() {
      model.trace.add(11);
      int lent = Asked.super.size();
      return lent + mark();
    }

    public int mark() {
      model.trace.add(21);
      int lent = Asked.super.mark();
      return lent + model.solesOf(number, 0).size();
    }
  }

  private static final class Narrow extends Lane {
    Narrow(PlainModel model, int number) {
      super(model, number);
    }

    public int size() {
      model.trace.add(12);
      return 0 - super.size();
    }

    public int mark() {
      model.trace.add(24);
      return super.mark() * 2;
    }
  }

  private static final class Old extends Lane {
    Old(PlainModel model, int number) {
      super(model, number);
    }

    public int mark() {
      model.trace.add(22);
      return super.mark() - 1000;
    }
  }

  private static class Highway implements Asked {
    final PlainModel model;
    final int number;

    Highway(PlainModel model, int number) {
      this.model = model;
      this.number = number;
    }

    public PlainModel model() {
      return model;
    }

    public int number() {
      return number;
    }

    public int size() {
      model.trace.add(13);
      return Asked.super.size() - 100;
    }

    public int mark() {
      model.trace.add(23);
      int lent = Asked.super.mark();
      return lent - size();
    }
  }

  private static final class River extends Highway {
    River(PlainModel model, int number) {
      super(model, number);
    }

    public int size() {
      model.trace.add(14);
      return super.size() * 2;
    }
  }

  int ask(int road, int what) {
    if (!isRoad(road) || what < 0 || what > 1) return BAD;
    trace = new ArrayList<>();
    Asked asked = switch (land.roads.get(road).kind) {
      case 1 -> new Lane(this, road);
      case 2 -> new Narrow(this, road);
      case 3 -> new Old(this, road);
      case 4 -> new Highway(this, road);
      default -> new River(this, road);
    };
    return what == 0 ? asked.size() : asked.mark();
  }

  int trace(int i) {
    return i >= 0 && i < Math.min(16, trace.size()) ? trace.get(i) : NONE;
  }

  int count(int what) {
    if (what == 0) return (int) Arrays.stream(rows).filter(r -> r != null).count();
    if (what == 7) return past.size();
    if (what == 8) return tape.length();
    if (what < 0 || what > 8) return BAD;
    if (land == null) return 0;
    return List.of(0, land.roads.size(), land.at.size(), land.places, land.fade, land.day, land.spent).get(what);
  }

  int status() {
    return status;
  }
}
