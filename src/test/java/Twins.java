import java.util.ArrayList;
import java.util.List;
import java.util.function.Function;
import java.util.function.Supplier;
import java.util.function.ToLongFunction;

/** Two objects made by the same calls, one of which gets a call more: whether anything but status() tells them apart. */
final class Twins {
  private static final List<Function<FeetRoads, List<Long>>> LOOKS =
      List.of(Twins::counts, Twins::land, Twins::past, Twins::images, Twins::tape, Twins::rows);

  private Twins() {
  }

  /** A land with acts, an image, rows of all lanes, a trace, a fault, bytes on the tape and a finding (STORE). */
  static FeetRoads busy() {
    FeetRoads x = Due.town();
    Due.fed(x, "f0").land();
    x.row(0, 0, 20);
    x.row(1, 1, 3);
    x.set(1, 0, 1);
    x.set(1, 1, 2);
    x.set(1, 2, 3);
    x.row(2, 2, 0);
    x.row(3, 0, 4);
    x.set(3, 1, 6);
    x.image(0);
    x.walk(0, 0);
    x.lead(1, 0, 1);
    x.day();
    x.walk(2, 4);
    x.change(0, 2);
    x.ask(4, 1);
    Due.fed(x, "f9,2;");
    x.copy(0, 0, 1, 0, 1);
    return x;
  }

  /** The call answers as due, status() is as due then, and all else is as it was. */
  static void refused(String what, Supplier<FeetRoads> made, long due, int status, ToLongFunction<FeetRoads> call) {
    FeetRoads x = made.get();
    Due.is(what, call.applyAsLong(x), due);
    Due.is(what + ": status", x.status(), status);
    unchanged(what, made, call);
  }

  static void unchanged(String what, Supplier<FeetRoads> made, ToLongFunction<FeetRoads> call) {
    for (Function<FeetRoads, List<Long>> look : LOOKS) {
      FeetRoads x = made.get();
      call.applyAsLong(x);
      Due.same(what + " changes nothing", look.apply(x), look.apply(made.get()));
    }
  }

  private static List<Long> counts(FeetRoads x) {
    List<Long> seen = new ArrayList<>();
    seen.add((long) x.fault());
    for (int what = 0; what <= 8; what++) {
      seen.add((long) x.count(what));
    }
    for (int i = 0; i <= 16; i++) {
      seen.add((long) x.trace(i));
    }
    return seen;
  }

  private static List<Long> land(FeetRoads x) {
    List<Long> seen = new ArrayList<>();
    for (int person = 0; person < x.count(2); person++) {
      for (int what = 0; what <= 2; what++) {
        seen.add((long) x.person(person, what));
      }
    }
    for (int road = 0; road < x.count(1); road++) {
      seen.add((long) x.kind(road));
      for (int what = 0; what <= 3; what++) {
        seen.add((long) x.road(road, what));
      }
    }
    seen.addAll(meetings(x));
    return seen;
  }

  private static List<Long> meetings(FeetRoads x) {
    List<Long> seen = new ArrayList<>();
    int people = x.count(2);
    int roads = x.count(1);
    for (int road = 0; road < roads; road++) {
      for (int sole = 0; sole < people; sole++) {
        seen.add(x.met(road, sole, 0) * 10000000L + x.met(road, sole, 1));
      }
    }
    return seen;
  }

  private static List<Long> past(FeetRoads x) {
    List<Long> seen = new ArrayList<>();
    int people = x.count(2);
    long left = 0;
    for (int k = 0; k <= 24 && left >= 0; k++) {
      left = x.undo();
      seen.add(left);
      seen.add(x.count(5) * 1000L + x.count(6));
      for (int person = 0; person < people; person++) {
        seen.add(x.person(person, 0) * 10L + x.person(person, 1));
      }
      if (k % 6 == 0) {
        seen.addAll(meetings(x));
      }
    }
    return seen;
  }

  private static List<Long> images(FeetRoads x) {
    List<Long> seen = new ArrayList<>();
    for (int k = 0; k <= 1; k++) {
      seen.add((long) x.restore(k));
      seen.add(x.count(5) * 1000L + x.count(6));
      seen.addAll(land(x));
    }
    return seen;
  }

  private static List<Long> tape(FeetRoads x) {
    List<Long> seen = new ArrayList<>();
    seen.add((long) x.land());
    seen.addAll(counts(x));
    return seen;
  }

  private static List<Long> rows(FeetRoads x) {
    List<Long> seen = new ArrayList<>();
    int places = x.count(3);
    for (int row = 0; row < 8; row++) {
      for (int i = 0; i < 4; i++) {
        for (int place = 0; place < places; place++) {
          seen.add((long) x.whose(row, i, 1, place));
        }
      }
      seen.add((long) x.set(row, 0, 70000));
      seen.add((long) x.drop(row));
    }
    return seen;
  }
}
