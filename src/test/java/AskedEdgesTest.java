import java.util.List;
import java.util.function.ToLongFunction;

/** Promises 1 and 31 to 36 at their edges: kinds, asks and their trace, counts, and which calls status() tells of. */
public final class AskedEdgesTest {
  private static final int NONE = Due.NONE, BAD = Due.BAD;
  /** Nine roads of all kinds between two places; four people know them all. */
  private static final String NINE =
      "f1,2;l0,1,1;n0,1,2;o0,1,3;h0,1,4;r0,1,5;r0,1,9;h0,1,9;o0,1,9;n0,1,9;p0,511;p0,511;p0,511;p0,511;";

  public static void main(String[] args) {
    newObject();
    noLand();
    noPeople();
    kinds();
    asEachKind();
    askedByAll();
    askedByNone();
    traceBegins();
    traceEnds();
    traceStays();
    counts();
    statusOfFindings();
    statusOfOtherCalls();
    statusOfRefusals();
    Due.end();
  }

  private static void newObject() {
    FeetRoads x = new FeetRoads();
    for (int what = 0; what <= 8; what++) {
      Due.is("new: count " + what, x.count(what), 0);
    }
    for (int row = 0; row <= 7; row++) {
      Due.is("new: row " + row + " is missing", x.drop(row), Due.NULL);
    }
    x = new FeetRoads();
    Due.is("new: status", x.status(), 0);
    Due.is("new: fault", x.fault(), 0);
    for (int i = 0; i <= 16; i++) {
      Due.is("new: trace " + i, x.trace(i), NONE);
    }
    FeetRoads busy = Twins.busy();
    Due.is("an object for itself", new FeetRoads().count(1) + busy.count(1), 7);
  }

  private static void noLand() {
    FeetRoads x = new FeetRoads();
    Due.all("no LAND", BAD, x.kind(0), x.as(0, 0), x.as(0, 5), x.ask(0, 0), x.ask(0, 1));
    x = Due.landOf("f1,2;p0,0;");
    Due.all("no ROADS", BAD, x.kind(0), x.as(0, 0), x.ask(0, 0), x.ask(0, 1));
  }

  private static void noPeople() {
    FeetRoads x = Due.landOf("f1,2;l0,1,4;n0,1,5;o0,1,6;h0,1,7;r0,1,8;");
    asked(x, 0, 4, 0);
    asked(x, 1, -(5 + 2), 2);
    asked(x, 2, 6 + 2 - 1000, 2 - 1000);
    asked(x, 3, 7 - 100, 3 - (7 - 100));
    asked(x, 4, 2 * (8 - 100), 4 - 2 * (8 - 100));
  }

  private static void asked(FeetRoads x, int road, int size, int mark) {
    Due.is("SIZE of " + road, x.ask(road, 0), size);
    Due.is("MARK of " + road, x.ask(road, 1), mark);
  }

  private static void kinds() {
    FeetRoads x = Due.landOf(NINE);
    int[] due = {1, 2, 3, 4, 5, 5, 4, 3, 2};
    for (int road = 0; road <= 8; road++) {
      Due.is("kind of " + road, x.kind(road), due[road]);
    }
    Due.all("no such road", BAD, x.kind(9), x.kind(-1), x.kind(Due.LEAST), x.kind(Due.LARGEST));
  }

  private static void asEachKind() {
    FeetRoads x = Due.landOf(NINE);
    int[] sorts = {0, 3, 7, 11, 17, 49};
    for (int road = 0; road <= 8; road++) {
      for (int kind = 0; kind <= 5; kind++) {
        boolean isOne = (sorts[x.kind(road)] >> kind & 1) == 1;
        Due.is(road + " as " + kind, x.as(road, kind), isOne ? road : Due.KIND);
        Due.is(road + " as " + kind + ", status", x.status(), isOne ? 0 : 3);
      }
    }
    Due.all("as: BAD ahead of KIND", BAD, x.as(9, 5), x.as(-1, 5), x.as(0, 6), x.as(0, -1), x.as(0, Due.LEAST),
        x.as(0, Due.LARGEST), x.as(Due.LEAST, 0), x.as(Due.LARGEST, 0));
  }

  private static void askedByAll() {
    FeetRoads x = Due.landOf(NINE);
    asked(x, 0, 1 + 0 + 4, 0 + 4);
    asked(x, 1, -(2 + 2 * (1 + 4)), 2 * (1 + 4));
    asked(x, 2, 3 + (2 + 4 - 1000), 2 + 4 - 1000);
    asked(x, 3, 4 - 100, 3 - (4 - 100));
    asked(x, 4, 2 * (5 - 100), 4 - 2 * (5 - 100));
    asked(x, 5, 2 * (9 - 100), 5 - 2 * (9 - 100));
    asked(x, 6, 9 - 100, 6 - (9 - 100));
    asked(x, 7, 9 + (7 + 4 - 1000), 7 + 4 - 1000);
    asked(x, 8, -(9 + 2 * (8 + 4)), 2 * (8 + 4));
    Due.all("no such ask", BAD, x.ask(9, 0), x.ask(-1, 0), x.ask(8, 2), x.ask(8, -1), x.ask(Due.LEAST, 0),
        x.ask(Due.LARGEST, 1), x.ask(0, Due.LEAST), x.ask(0, Due.LARGEST));
  }

  /** To how many soles a road opens goes down as it forgets. */
  private static void askedByNone() {
    FeetRoads x = Due.landOf(NINE);
    x.day();
    Due.is("MARK on the last day", x.ask(0, 1), 4);
    x.heels(2);
    Due.is("MARK, one having new heels", x.ask(0, 1), 3);
    x.day();
    Due.is("MARK one day more", x.ask(0, 1), 0);
    Due.is("MARK one day more, an old one", x.ask(2, 1), 2 + 3 - 1000);
    x.day();
    Due.is("MARK two days more, an old one", x.ask(2, 1), 2 - 1000);
    x.heels(0);
    Due.is("SIZE of a lane that knows nobody", x.ask(0, 0), 1);
  }

  private static void traced(int road, int what, int... due) {
    FeetRoads x = Due.landOf(NINE);
    x.ask(4, 1);
    x.ask(road, what);
    for (int i = 0; i < due.length; i++) {
      Due.is("trace " + i + " of ask " + road + " " + what, x.trace(i), due[i]);
    }
    for (int i = due.length; i <= 16; i++) {
      Due.is("no trace " + i + " of ask " + road + " " + what, x.trace(i), NONE);
    }
  }

  private static void traceBegins() {
    traced(0, 0, 11, 10, 21, 20);
    traced(1, 0, 12, 11, 10, 24, 21, 20);
    traced(2, 0, 11, 10, 22, 21, 20);
    traced(3, 0, 13, 10);
    traced(4, 0, 14, 13, 10);
    traced(0, 1, 21, 20);
    traced(1, 1, 24, 21, 20);
    traced(2, 1, 22, 21, 20);
    traced(3, 1, 23, 20, 13, 10);
    traced(4, 1, 23, 20, 14, 13, 10);
  }

  /** No ask leaves more than six numbers, so the first 16 are always all of them. */
  private static void traceEnds() {
    FeetRoads x = Due.landOf(NINE);
    x.ask(1, 0);
    Due.is("the last of six", x.trace(5), 20);
    Due.all("no seventh", NONE, x.trace(6), x.trace(15), x.trace(16), x.trace(17), x.trace(-1), x.trace(Due.LEAST),
        x.trace(Due.LARGEST));
  }

  private static void traceStays() {
    List<ToLongFunction<FeetRoads>> calls = List.of(x -> x.ask(9, 0), x -> x.ask(0, 2), x -> x.ask(-1, -1),
        x -> x.day(), x -> x.undo(), x -> x.walk(0, 3), x -> x.land(), x -> x.kind(0), x -> x.as(0, 0),
        x -> x.image(0), x -> x.restore(0), x -> x.row(0, 0, 1), x -> x.trace(0));
    FeetRoads x = Due.landOf(NINE);
    x.ask(3, 0);
    for (int k = 0; k < calls.size(); k++) {
      calls.get(k).applyAsLong(x);
      Due.is("the trace stays, call " + k, x.trace(0) * 10000 + x.trace(1) * 10 + (x.trace(2) == NONE ? 1 : 0), 130101);
    }
    Due.fed(x, "f1,2;").land();
    Due.is("the trace stays, another land", x.trace(0), 13);
  }

  private static void counts() {
    FeetRoads x = Due.fed(Due.landOf(NINE.replace("f1,2", "f30,8")), Due.times("x", 120));
    for (int row = 0; row <= 7; row++) {
      x.row(row, 0, 0);
    }
    Due.days(x, 25);
    x.lead(0, 1, 5);
    x.lead(1, 0, 5);
    int[] most = {8, 9, 4, 8, 30, 25, 36, 24, 120};
    for (int what = 0; what <= 8; what++) {
      Due.is("the most of count " + what, x.count(what), most[what]);
    }
    Due.all("no such count", BAD, x.count(9), x.count(-1), x.count(Due.LEAST), x.count(Due.LARGEST));
  }

  private static FeetRoads withStatus(int number) {
    FeetRoads x = Due.town();
    x.row(0, 0, 2);
    x.row(1, 1, 2);
    List<ToLongFunction<FeetRoads>> finders = List.of(y -> y.drop(0) + y.row(0, 0, 2), y -> y.drop(7), y -> y.set(0, 2, 0),
        y -> y.as(0, 4), y -> y.row(0, 0, -1), y -> y.copy(0, 0, 1, 0, 1));
    finders.get(number).applyAsLong(x);
    return x;
  }

  /** A call with a ROW, or as(), that goes well clears what was found. */
  private static void statusOfFindings() {
    List<ToLongFunction<FeetRoads>> well = List.of(x -> x.row(2, 0, 0), x -> x.set(0, 0, 9), x -> x.copy(0, 0, 0, 0, 0),
        x -> x.drop(0), x -> x.whose(0, 0, 0, 0), x -> x.whose(0, 0, 2, 0), x -> x.as(0, 0));
    for (int number = 0; number <= 5; number++) {
      Due.is("status " + number, withStatus(number).status(), number);
      Due.is("status " + number + " stays when asked", withStatus(number).status(), number);
      for (int k = 0; k < well.size(); k++) {
        FeetRoads x = withStatus(number);
        well.get(k).applyAsLong(x);
        Due.is("status " + number + " cleared by call " + k, x.status(), 0);
      }
    }
  }

  private static void statusOfOtherCalls() {
    List<ToLongFunction<FeetRoads>> others = List.of(x -> x.feed('f'), x -> x.land(), x -> x.fault(), x -> x.walk(0, 0),
        x -> x.lead(0, 1, 0), x -> x.change(0, 1), x -> x.heels(0), x -> x.day(), x -> x.undo(), x -> x.person(0, 0),
        x -> x.road(0, 0), x -> x.met(0, 0, 0), x -> x.reach(0), x -> x.way(0, 5), x -> x.led(0, 1, 5),
        x -> x.introduced(0, 5, 0), x -> x.forgets(), x -> x.nobody(0), x -> x.round(0), x -> x.bars(0, 0, 0),
        x -> x.meet(0, 1, 0), x -> x.snow(0, 0, 0, 0), x -> x.image(0), x -> x.restore(0), x -> x.kind(0),
        x -> x.ask(0, 0), x -> x.trace(0), x -> x.count(0), x -> x.status());
    for (int number = 0; number <= 5; number++) {
      FeetRoads x = withStatus(number);
      for (int k = 0; k < others.size(); k++) {
        others.get(k).applyAsLong(x);
        Due.is("status " + number + " stays, call " + k, x.status(), number);
      }
    }
  }

  private static void statusOfRefusals() {
    List<ToLongFunction<FeetRoads>> refused = List.of(x -> x.row(8, 0, 0), x -> x.row(0, 0, 41), x -> x.set(8, 0, 0),
        x -> x.copy(0, 0, 8, 0, 0), x -> x.drop(-1), x -> x.whose(0, 0, 17, 0), x -> x.whose(0, 0, 1, 5),
        x -> x.as(7, 0), x -> x.as(0, 6));
    for (int number = 0; number <= 5; number++) {
      FeetRoads x = withStatus(number);
      for (int k = 0; k < refused.size(); k++) {
        Due.is("refused, call " + k, refused.get(k).applyAsLong(x), BAD);
        Due.is("status " + number + " stays, refused call " + k, x.status(), number);
      }
    }
    FeetRoads x = new FeetRoads();
    x.drop(0);
    Due.is("whose without a LAND", x.whose(0, 0, 0, 0), Due.STATE);
    Due.is("status stays, STATE", x.status(), 1);
  }
}
