import com.sun.management.ThreadMXBean;
import java.lang.management.ManagementFactory;

/** What an object takes of the room, and that no call takes more of it. */
public final class RoomTest {
  private static final ThreadMXBean MEASURE = (ThreadMXBean) ManagementFactory.getThreadMXBean();
  private static final int MOST_BYTES_AN_OBJECT = 48000;

  private static FeetRoads kept;
  private static long answers = 0;

  public static void main(String[] args) {
    String nineRoads = "f9,8;l0,1,1;l1,2,2;l2,3,3;n3,4,4;n4,5,5;n5,6,6;o6,7,7;o7,0,8;l0,4,9;p0,511;p1,511;p2,511;p3,511;";
    make();
    long made = taken(RoomTest::make);
    System.out.println("an object takes " + made + " bytes");
    boolean fine = made <= MOST_BYTES_AN_OBJECT;
    String odd = nineRoads + "x";
    callAll(odd);
    callAll(nineRoads);
    callAll(nineRoads);
    long called = Math.min(taken(() -> callAll(nineRoads)), taken(() -> callAll(nineRoads)));
    System.out.println("all calls take " + called + " bytes (" + answers + ")");
    fine &= called == 0;
    if (!fine) {
      System.out.println("that is too much");
      System.exit(1);
    }
  }

  private static long taken(Runnable work) {
    long ahead = MEASURE.getCurrentThreadAllocatedBytes();
    work.run();
    return MEASURE.getCurrentThreadAllocatedBytes() - ahead;
  }

  private static void make() {
    kept = new FeetRoads();
  }

  private static void callAll(String text) {
    FeetRoads x = kept;
    for (int i = 0; i < text.length(); i++) {
      answers += x.feed(text.charAt(i));
    }
    answers += x.land() + x.fault();
    rows(x);
    for (int k = 0; k < 30; k++) {
      answers += x.walk(0, 0) + x.lead(0, 1, 0) + x.day();
    }
    answers += x.undo() + x.undo() + x.restore(0) + x.image(0) + x.restore(0) + x.heels(3) + x.change(3, 0);
    for (int place = 0; place < 8; place++) {
      answers += x.way(0, place) + x.led(0, 1, place) + x.introduced(3, place, 0) + x.bars(0, place, 1);
      answers += x.snow(1, place, 5, 0) + x.ask(place, 0) + x.ask(place, 1) + x.trace(0) + x.as(place, 1) + x.kind(place);
      answers += x.road(place, 3) + x.met(place, 0, 1) + x.count(place) + x.nobody(place);
    }
    answers += x.reach(0) + x.forgets() + x.round(0) + x.round(1) + x.meet(0, 1, 1) + x.person(0, 2) + x.status();
  }

  private static void rows(FeetRoads x) {
    for (int row = 0; row < 8; row++) {
      answers += x.row(row, row % 3, 40) + x.set(row, 0, 5) + x.copy(row, 0, row, 1, 30) + x.whose(row, 0, 16, 0);
      answers += x.drop(row);
    }
  }
}
