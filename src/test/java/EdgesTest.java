import java.util.function.Supplier;

/**
 * Each number that a call takes: the least and the largest that are told, one below, one above, and an int's own
 * edges; and that a call which is refused, or has a finding, changes nothing but status().
 */
public final class EdgesTest {
  private static final int BAD = Due.BAD, STATE = Due.STATE, FULL = Due.FULL, NONE = Due.NONE;
  /** The finding that Twins.busy() leaves: a refusal keeps it. */
  private static final int LEFT = 5;

  private interface Call {
    long of(FeetRoads x, int v);
  }

  public static void main(String[] args) {
    rows();
    lands();
    acts();
    told();
    foretold();
    whoseAndSnow();
    asked();
    foretoldChangesNothing();
    fullChangesNothing();
    stateChangesNothing();
    findingsChangeNothing();
    Due.end();
  }

  private static int statusAfter(long answer) {
    return answer <= Due.NULL && answer >= Due.STORE ? (int) (-1000010 - answer) : LEFT;
  }

  /** What is due below the least number and above the largest one. */
  private static void edge(String what, int least, int most, long below, long above, Call call) {
    for (int v : new int[] {least, most}) {
      for (long wrong : new long[] {BAD, below, above}) {
        Due.not(what + " " + v, call.of(Twins.busy(), v), wrong);
      }
    }
    for (int v : new int[] {Due.LEAST, least - 1}) {
      Twins.refused(what + " " + v, Twins::busy, below, statusAfter(below), x -> call.of(x, v));
    }
    for (int v : new int[] {most + 1, Due.LARGEST}) {
      Twins.refused(what + " " + v, Twins::busy, above, statusAfter(above), x -> call.of(x, v));
    }
  }

  private static void edge(String what, int least, int most, Call call) {
    edge(what, least, most, BAD, BAD, call);
  }

  private static void rows() {
    edge("row: ROW", 0, 7, (x, v) -> x.row(v, 0, 1));
    edge("row: LANE", 0, 2, (x, v) -> x.row(0, v, 1));
    edge("row: n", 0, 40, Due.SIZE, BAD, (x, v) -> x.row(0, 0, v));
    edge("set: ROW", 0, 7, (x, v) -> x.set(v, 0, 1));
    edge("set: i", 0, 19, Due.PLACE, Due.PLACE, (x, v) -> x.set(0, v, 1));
    edge("copy: a", 0, 7, (x, v) -> x.copy(v, 0, 0, 0, 1));
    edge("copy: b", 0, 7, (x, v) -> x.copy(0, 0, v, 0, 1));
    edge("copy: i", 0, 17, Due.PLACE, Due.PLACE, (x, v) -> x.copy(0, v, 3, 1, 3));
    edge("copy: j", 0, 2, Due.PLACE, Due.PLACE, (x, v) -> x.copy(0, 0, 3, v, 2));
    edge("copy: n", 0, 4, Due.PLACE, Due.PLACE, (x, v) -> x.copy(0, 0, 3, 0, v));
    edge("copy: n at the end of a", 0, 2, Due.PLACE, Due.PLACE, (x, v) -> x.copy(0, 18, 3, 0, v));
    edge("drop: ROW", 0, 7, (x, v) -> x.drop(v));
  }

  private static void lands() {
    edge("feed", 0, 255, (x, v) -> x.feed(v));
    edge("image", 0, 1, (x, v) -> x.image(v));
    edge("restore", 0, 1, (x, v) -> x.restore(v));
  }

  private static void acts() {
    edge("walk: person", 0, 2, (x, v) -> x.walk(v, 0));
    edge("walk: ROAD", 0, 6, (x, v) -> x.walk(0, v));
    edge("lead: person", 0, 2, (x, v) -> x.lead(v, 1, 1));
    edge("lead: other", 0, 2, (x, v) -> x.lead(1, v, 1));
    edge("lead: ROAD", 0, 6, (x, v) -> x.lead(1, 0, v));
    edge("change: person", 0, 2, (x, v) -> x.change(v, 1));
    edge("change: other", 0, 2, (x, v) -> x.change(1, v));
    edge("heels", 0, 2, (x, v) -> x.heels(v));
    for (int person = 0; person <= 2; person++) {
      int alike = person;
      Twins.refused("lead: alike " + person, Twins::busy, BAD, LEFT, x -> x.lead(alike, alike, 3));
      Twins.refused("change: alike " + person, Twins::busy, BAD, LEFT, x -> x.change(alike, alike));
      Twins.refused("led: alike " + person, Twins::busy, BAD, LEFT, x -> x.led(alike, alike, 0));
      Twins.refused("meet: alike " + person, Twins::busy, BAD, LEFT, x -> x.meet(alike, alike, 0));
    }
  }

  private static void told() {
    edge("person: person", 0, 2, (x, v) -> x.person(v, 0));
    edge("person: what", 0, 2, (x, v) -> x.person(0, v));
    edge("road: ROAD", 0, 6, (x, v) -> x.road(v, 0));
    edge("road: what", 0, 3, (x, v) -> x.road(0, v));
    edge("met: ROAD", 0, 6, (x, v) -> x.met(v, 0, 0));
    edge("met: SOLE", 0, 2, (x, v) -> x.met(0, v, 0));
    edge("met: what", 0, 1, (x, v) -> x.met(0, 0, v));
    edge("count", 0, 8, (x, v) -> x.count(v));
  }

  private static void foretold() {
    edge("reach", 0, 2, (x, v) -> x.reach(v));
    edge("way: person", 0, 2, (x, v) -> x.way(v, 0));
    edge("way: PLACE", 0, 5, (x, v) -> x.way(0, v));
    edge("led: person", 0, 2, (x, v) -> x.led(v, 1, 0));
    edge("led: other", 0, 2, (x, v) -> x.led(1, v, 0));
    edge("led: PLACE", 0, 5, (x, v) -> x.led(0, 1, v));
    edge("introduced: person", 0, 2, (x, v) -> x.introduced(v, 0, 0));
    edge("introduced: PLACE", 0, 5, (x, v) -> x.introduced(0, v, 0));
    edge("introduced: what", 0, 1, (x, v) -> x.introduced(0, 0, v));
    edge("nobody", 0, 99, (x, v) -> x.nobody(v));
    edge("round", 0, 2, (x, v) -> x.round(v));
    edge("bars: person", 0, 2, (x, v) -> x.bars(v, 0, 0));
    edge("bars: PLACE", 0, 5, (x, v) -> x.bars(0, v, 0));
    edge("bars: what", 0, 1, (x, v) -> x.bars(0, 0, v));
    edge("meet: person", 0, 2, (x, v) -> x.meet(v, 1, 0));
    edge("meet: other", 0, 2, (x, v) -> x.meet(1, v, 0));
    edge("meet: what", 0, 1, (x, v) -> x.meet(0, 1, v));
  }

  private static void whoseAndSnow() {
    edge("whose: ROW", 0, 7, (x, v) -> x.whose(v, 0, 0, 0));
    edge("whose: i", 0, 18, Due.PLACE, Due.PLACE, (x, v) -> x.whose(0, v, 2, 0));
    edge("whose: i of none", 0, 20, Due.PLACE, Due.PLACE, (x, v) -> x.whose(0, v, 0, 0));
    edge("whose: n", 0, 16, (x, v) -> x.whose(0, 0, v, 0));
    edge("whose: PLACE", 0, 5, (x, v) -> x.whose(0, 0, 0, v));
    edge("snow: person", 0, 2, (x, v) -> x.snow(v, 0, 5, 0));
    edge("snow: PLACE", 0, 5, (x, v) -> x.snow(0, v, 5, 0));
    edge("snow: c", 0, 10, (x, v) -> x.snow(0, 0, v, 0));
    edge("snow: what", 0, 1, (x, v) -> x.snow(0, 0, 5, v));
  }

  private static void asked() {
    edge("kind", 0, 6, (x, v) -> x.kind(v));
    edge("as: ROAD", 0, 6, (x, v) -> x.as(v, 0));
    edge("as: KIND", 0, 5, (x, v) -> x.as(0, v));
    edge("ask: ROAD", 0, 6, (x, v) -> x.ask(v, 0));
    edge("ask: what", 0, 1, (x, v) -> x.ask(0, v));
    edge("trace", 0, 4, NONE, NONE, (x, v) -> x.trace(v));
    Due.is("trace: the last one", Twins.busy().trace(4), 10);
  }

  private static void foretoldChangesNothing() {
    Twins.unchanged("fault", Twins::busy, x -> x.fault());
    Twins.unchanged("person", Twins::busy, x -> x.person(0, 2));
    Twins.unchanged("road", Twins::busy, x -> x.road(2, 3));
    Twins.unchanged("met", Twins::busy, x -> x.met(2, 0, 1));
    Twins.unchanged("reach", Twins::busy, x -> x.reach(0));
    Twins.unchanged("way", Twins::busy, x -> x.way(0, 5));
    Twins.unchanged("led", Twins::busy, x -> x.led(0, 1, 4));
    Twins.unchanged("introduced", Twins::busy, x -> x.introduced(0, 1, 1));
    Twins.unchanged("forgets", Twins::busy, x -> x.forgets());
    Twins.unchanged("nobody", Twins::busy, x -> x.nobody(99));
    Twins.unchanged("round", Twins::busy, x -> x.round(1));
    Twins.unchanged("bars", Twins::busy, x -> x.bars(0, 4, 1));
    Twins.unchanged("meet", Twins::busy, x -> x.meet(0, 2, 0));
    Twins.unchanged("whose", Twins::busy, x -> x.whose(1, 0, 3, 1));
    Twins.unchanged("snow", Twins::busy, x -> x.snow(1, 4, 3, 0));
    Twins.unchanged("kind", Twins::busy, x -> x.kind(4));
    Twins.unchanged("as", Twins::busy, x -> x.as(4, 4));
    Twins.unchanged("trace", Twins::busy, x -> x.trace(0));
    Twins.unchanged("count", Twins::busy, x -> x.count(6));
    Twins.unchanged("status", Twins::busy, x -> x.status());
  }

  private static FeetRoads withFullTape() {
    return Due.fed(Twins.busy(), Due.times(" ", 115));
  }

  /** Day 999 is beyond the 512 calls for which answers are promised; the class keeps its rule there too. */
  private static FeetRoads onTheLastDay() {
    return Due.days(Twins.busy(), 998);
  }

  private static void fullChangesNothing() {
    Twins.refused("feed 0, full", EdgesTest::withFullTape, FULL, LEFT, x -> x.feed(0));
    Twins.refused("feed 255, full", EdgesTest::withFullTape, FULL, LEFT, x -> x.feed(255));
    Twins.refused("feed -1, full", EdgesTest::withFullTape, BAD, LEFT, x -> x.feed(-1));
    Twins.refused("feed 256, full", EdgesTest::withFullTape, BAD, LEFT, x -> x.feed(256));
    Due.is("the last day", onTheLastDay().count(5), 999);
    Twins.refused("day, full", EdgesTest::onTheLastDay, FULL, LEFT, x -> x.day());
  }

  private static FeetRoads withoutActs() {
    FeetRoads x = Twins.busy();
    x.restore(0);
    return x;
  }

  private static void stateChangesNothing() {
    Twins.refused("walk at no end", Twins::busy, STATE, LEFT, x -> x.walk(2, 3));
    Twins.refused("walk a road that does not open", Twins::busy, STATE, LEFT, x -> x.walk(0, 2));
    Twins.refused("lead apart", Twins::busy, STATE, LEFT, x -> x.lead(0, 2, 5));
    Twins.refused("lead at no end", Twins::busy, STATE, LEFT, x -> x.lead(1, 0, 3));
    Twins.refused("lead over what opens to the other", Twins::busy, STATE, LEFT, x -> x.lead(0, 1, 1));
    Twins.refused("undo none", EdgesTest::withoutActs, STATE, LEFT, x -> x.undo());
    Twins.refused("restore none", Twins::busy, STATE, LEFT, x -> x.restore(1));
    Supplier<FeetRoads> fresh = FeetRoads::new;
    Twins.refused("day of no LAND", fresh, STATE, 0, x -> x.day());
    Twins.refused("undo of no LAND", fresh, STATE, 0, x -> x.undo());
    Twins.refused("forgets of no LAND", fresh, STATE, 0, x -> x.forgets());
    Twins.refused("nobody of no LAND", fresh, STATE, 0, x -> x.nobody(0));
    Twins.refused("whose of no LAND", fresh, STATE, 0, x -> x.whose(0, 0, 0, 0));
    Twins.refused("image of no LAND", fresh, STATE, 0, x -> x.image(0));
    Twins.refused("restore of no LAND", fresh, STATE, 0, x -> x.restore(0));
  }

  private static void findingsChangeNothing() {
    Twins.refused("set NULL", Twins::busy, Due.NULL, 1, x -> x.set(4, 0, 1));
    Twins.refused("copy NULL, a", Twins::busy, Due.NULL, 1, x -> x.copy(4, 0, 0, 0, 1));
    Twins.refused("copy NULL, b", Twins::busy, Due.NULL, 1, x -> x.copy(0, 0, 4, 0, 1));
    Twins.refused("drop NULL", Twins::busy, Due.NULL, 1, x -> x.drop(4));
    Twins.refused("whose NULL", Twins::busy, Due.NULL, 1, x -> x.whose(4, 0, 0, 0));
    Twins.refused("set PLACE", Twins::busy, Due.PLACE, 2, x -> x.set(2, 0, 1));
    Twins.refused("copy PLACE", Twins::busy, Due.PLACE, 2, x -> x.copy(0, 0, 3, 1, 4));
    Twins.refused("whose PLACE", Twins::busy, Due.PLACE, 2, x -> x.whose(1, 0, 4, 1));
    Twins.refused("as KIND", Twins::busy, Due.KIND, 3, x -> x.as(0, 4));
    Twins.refused("row SIZE", Twins::busy, Due.SIZE, 4, x -> x.row(0, 2, -1));
    Twins.refused("copy STORE", Twins::busy, Due.STORE, 5, x -> x.copy(0, 0, 1, 0, 1));
    Twins.refused("whose of no ROAD", Twins::busy, BAD, LEFT, x -> x.whose(1, 0, 1, 0));
  }
}
