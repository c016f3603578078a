import java.util.List;
import java.util.function.ToLongFunction;

/** Promises 9 to 17, 29 and 30 at their edges: what opens until when, acts and their undoing, images. */
public final class ActEdgesTest {
  private static final int NONE = Due.NONE, BAD = Due.BAD, STATE = Due.STATE, FULL = Due.FULL;
  private static final String BOTH = "0,1,7;p0,1;p0,0;";

  public static void main(String[] args) {
    for (int fade : new int[] {1, 2, 29, 30}) {
      laneFades(fade);
      narrowFades(fade);
      oldFades(fade);
    }
    narrowOnce();
    alwaysOpen();
    walkFromEitherEnd();
    walkMeets();
    riverPaid();
    actsOfNoLand();
    actsOfNoRoads();
    actsOfNoPeople();
    leadWhere();
    leadBothMeet();
    changeSoles();
    newHeels();
    heelsCounts();
    lastDay();
    undoEach();
    undo24();
    undoThenAct();
    undoNone();
    personTold();
    roadTold();
    metTold();
    images();
    imagesAreTwo();
    imageLeavesTheRest();
    Due.end();
  }

  private static FeetRoads fading(char sort, int fade) {
    return Due.landOf("f" + fade + ",2;" + sort + BOTH);
  }

  /** The road opens until it has faded for so many days, and not on the day behind them. */
  private static void fades(String what, FeetRoads x, int daysKept) {
    Due.days(x, daysKept);
    Due.is(what + " on its last day", x.road(0, 3), 1);
    Due.is(what + " on its last day, to one", x.person(0, 2), 1);
    Due.is(what + " on its last day, walked", x.walk(0, 0), 1);
    x.undo();
    Due.is(what + " on its last day, reached", x.reach(0), 3);
    Due.is(what + " on its last day, forgotten in", x.forgets(), 1);
    x.day();
    Due.is(what + " one day more", x.road(0, 3), 0);
    Due.is(what + " one day more, to one", x.person(0, 2), 0);
    Due.is(what + " one day more, walked", x.walk(0, 0), STATE);
    Due.is(what + " one day more, led", x.lead(0, 1, 0), STATE);
    Due.is(what + " one day more, reached", x.reach(0), 1);
    Due.is(what + " one day more, nothing to forget", x.forgets(), NONE);
    Due.is(what + " one day more, met still", x.met(0, 0, 0) * 10 + x.met(0, 0, 1), 20);
    x.undo();
    Due.is(what + " when the day is undone", x.road(0, 3), 1);
  }

  private static void laneFades(int fade) {
    fades("a lane", fading('l', fade), fade);
  }

  private static void narrowFades(int fade) {
    fades("a narrow one", fading('n', fade), fade);
  }

  private static void oldFades(int fade) {
    fades("an old one", fading('o', fade), 2 * fade);
  }

  private static void narrowOnce() {
    FeetRoads x = fading('n', 1);
    x.lead(0, 1, 0);
    Due.is("a narrow one that met once", x.road(0, 3), 1);
    Due.is("a narrow one that met once, walked", x.walk(1, 0), STATE);
    x.lead(0, 1, 0);
    Due.is("a narrow one that met twice", x.road(0, 3), 3);
    Due.is("a narrow one that met twice, walked", x.walk(1, 0), 1);
    for (char sort : new char[] {'l', 'o'}) {
      FeetRoads y = fading(sort, 1);
      y.lead(0, 1, 0);
      Due.is(sort + " that met once", y.road(0, 3), 3);
      Due.is(sort + " that met once, walked", y.walk(1, 0), 0);
    }
    FeetRoads z = fading('n', 1);
    z.lead(0, 1, 0);
    z.day();
    z.lead(0, 1, 0);
    z.day();
    Due.is("a narrow one: twice, and the last of them lately", z.road(0, 3), 3);
  }

  private static void alwaysOpen() {
    for (char sort : new char[] {'h', 'r'}) {
      FeetRoads x = Due.landOf("f1,2;" + sort + "0,1,7;p0,0;p0,0;");
      Due.is(sort + " that never met one", x.road(0, 3), 3);
      Due.days(x, 70);
      x.heels(1);
      Due.is(sort + " 70 days later", x.road(0, 3), 3);
      Due.is(sort + " 70 days later, walked", x.walk(1, 0), 1);
    }
  }

  private static void walkFromEitherEnd() {
    FeetRoads x = Due.landOf("f1,8;h7,0,1;p7,0;p0,0;p3,0;");
    Due.is("walk from one end", x.walk(0, 0), 0);
    Due.is("walk from the other end", x.walk(1, 0), 7);
    Due.is("walk at no end", x.walk(2, 0), STATE);
    Due.is("walk back", x.walk(0, 0), 7);
  }

  private static void walkMeets() {
    for (char sort : new char[] {'l', 'n', 'o', 'h'}) {
      FeetRoads x = fading(sort, 9);
      Due.days(x, 3);
      x.walk(0, 0);
      Due.is(sort + " met once more", x.met(0, 0, 0), 3);
      Due.is(sort + " met today", x.met(0, 0, 1), 3);
      Due.is(sort + " met the one alone", x.met(0, 1, 0), 0);
      Due.is(sort + " costs nothing", x.count(6), 0);
    }
  }

  private static void riverPaid() {
    FeetRoads x = fading('r', 9);
    for (int k = 1; k <= 5; k++) {
      x.walk(0, 0);
      Due.is("a river is paid each time", x.count(6), 7 * k);
    }
    Due.is("a river meets none", x.met(0, 0, 0), 0);
    Due.is("a river meets none, no day", x.met(0, 0, 1), NONE);
    x.undo();
    Due.is("undone, it is not paid", x.count(6), 28);
    x.walk(0, 0);
    x.walk(0, 0);
    Due.is("a river led over is paid by both", x.lead(0, 1, 0), 1);
    Due.is("spent then", x.count(6), 56);
  }

  private static void actsOfNoLand() {
    FeetRoads x = new FeetRoads();
    Due.all("no LAND: BAD", BAD, x.walk(0, 0), x.lead(0, 1, 0), x.change(0, 1), x.heels(0), x.person(0, 0),
        x.road(0, 0), x.met(0, 0, 0), x.image(2), x.restore(-1));
    Due.all("no LAND: STATE", STATE, x.day(), x.undo(), x.image(0), x.image(1), x.restore(0), x.restore(1));
  }

  private static void actsOfNoRoads() {
    FeetRoads x = Due.landOf("f1,2;p0,0;p0,0;");
    Due.all("no ROADS", BAD, x.walk(0, 0), x.lead(0, 1, 0), x.road(0, 0), x.met(0, 0, 0));
    Due.is("no ROADS: change", x.change(0, 1), 1);
    Due.is("no ROADS: heels", x.heels(0), 0);
    Due.is("no ROADS: day", x.day(), 1);
    Due.is("no ROADS: none open", x.person(0, 2), 0);
    Due.is("no ROADS: undo", x.undo(), 2);
  }

  private static void actsOfNoPeople() {
    FeetRoads x = Due.landOf("f1,2;l0,1,1;h0,1,2;");
    Due.all("no PEOPLE", BAD, x.walk(0, 0), x.lead(0, 1, 0), x.change(0, 1), x.heels(0), x.person(0, 0),
        x.met(0, 0, 0));
    Due.is("no PEOPLE: no SOLES", x.road(1, 3), 0);
    Due.is("no PEOPLE: day", x.day(), 1);
    Due.is("no PEOPLE: undo", x.undo(), 0);
    FeetRoads one = Due.landOf("f1,2;h0,1,1;p0,0;");
    Due.all("one of PEOPLE: no other", BAD, one.lead(0, 1, 0), one.lead(1, 0, 0), one.change(0, 1), one.change(1, 0));
  }

  private static void leadWhere() {
    FeetRoads x = Due.landOf("f1,4;h0,1,1;h2,3,1;l0,1,1;p0,4;p0,0;p1,0;p2,0;");
    Due.is("lead: two ends of the road", x.lead(0, 2, 0), STATE);
    Due.is("lead: the other at no end", x.lead(0, 3, 0), STATE);
    Due.is("lead: the first at no end", x.lead(3, 0, 0), STATE);
    Due.is("lead: both at one place, no end", x.lead(0, 1, 1), STATE);
    Due.is("lead: opens to the other alone", x.lead(1, 0, 2), STATE);
    Due.is("lead: BAD ahead of STATE", x.lead(1, 1, 2), BAD);
    Due.is("lead: BAD ahead of STATE, the road", x.lead(0, 2, 3), BAD);
    Due.is("lead: refused ones are no acts", x.count(7), 0);
    Due.is("lead: opens to the first alone", x.lead(0, 1, 2), 1);
    Due.is("lead: both are there", x.person(0, 0) * 10 + x.person(1, 0), 11);
    Due.is("lead: nobody else is moved", x.person(2, 0) * 10 + x.person(3, 0), 12);
  }

  private static void leadBothMeet() {
    FeetRoads x = fading('l', 3);
    x.day();
    x.lead(0, 1, 0);
    Due.is("lead: the first is met", x.met(0, 0, 0) * 10 + x.met(0, 0, 1), 31);
    Due.is("lead: the other is met", x.met(0, 1, 0) * 10 + x.met(0, 1, 1), 11);
    Due.is("lead: one act behind a day", x.count(7), 2);
    x.undo();
    Due.is("lead undone: the first", x.met(0, 0, 0) * 10 + x.met(0, 0, 1), 20);
    Due.is("lead undone: the other", x.met(0, 1, 1), NONE);
    Due.is("lead undone: places", x.person(0, 0) * 10 + x.person(1, 0), 0);
    x.change(0, 1);
    Due.is("lead by the sole, not by the one", x.lead(1, 0, 0), 1);
    Due.is("lead: the SOLE of the led is met", x.met(0, 1, 0), 1);
  }

  private static void changeSoles() {
    FeetRoads x = Due.landOf("f1,8;l0,1,1;p0,1;p7,0;p3,0;p4,0;");
    Due.is("change, apart", x.change(0, 3), 3);
    Due.is("change: the other's", x.person(3, 1), 0);
    Due.is("change: nobody else's", x.person(1, 1) * 10 + x.person(2, 1), 12);
    Due.is("change: places stay", x.person(0, 0) * 10 + x.person(3, 0), 4);
    Due.is("change: what opens goes with the SOLE", x.person(0, 2) * 10 + x.person(3, 2), 1);
    Due.is("change: roads know SOLES", x.road(0, 3), 1);
    Due.is("change back, the other first", x.change(3, 0), 3);
    Due.is("changed back", x.person(0, 1), 0);
    Due.is("changes are acts", x.count(7), 2);
  }

  private static void newHeels() {
    FeetRoads x = Due.landOf("f9,2;l0,1,1;n0,1,1;o0,1,1;h0,1,1;r0,1,1;p0,31;p0,31;");
    Due.is("heels: all but the river", x.heels(0), 4);
    Due.is("heels: none opens but highway and river", x.person(0, 2), 24);
    Due.is("heels: the other's stay", x.person(1, 2), 31);
    Due.is("heels again", x.heels(0), 0);
    Due.is("heels are acts, though none had met it", x.count(7), 2);
    x.day();
    x.lead(1, 0, 0);
    Due.is("heels: met anew", x.met(0, 0, 0) * 10 + x.met(0, 0, 1), 11);
    x.lead(1, 0, 1);
    Due.is("heels: a narrow one needs it twice anew", x.road(1, 3), 2);
    x.undo();
    x.undo();
    x.undo();
    x.undo();
    x.undo();
    Due.is("heels undone", x.person(0, 2), 31);
    Due.is("heels undone, met", x.met(3, 0, 0), 2);
    x.change(0, 1);
    Due.is("heels of the SOLE that one has", x.heels(0), 4);
    Due.is("heels: SOLE 1", x.met(0, 1, 0) * 10 + x.met(0, 0, 0), 2);
  }

  private static void heelsCounts() {
    for (int roads = 0; roads <= 9; roads++) {
      String text = "f1,2;" + Due.times("l0,1,1;", roads) + "p0," + ((1 << roads) - 1) + ";";
      Due.is("heels of " + roads, Due.landOf(text).heels(0), roads);
    }
    FeetRoads x = Due.days(fading('l', 1), 2);
    Due.is("heels: a road that opens no more had met it", x.heels(0), 1);
    x = Due.days(Due.landOf("f9,2;" + Due.times("l0,1,1;", 9) + "p0,511;"), 3);
    x.walk(0, 0);
    Due.is("heels of nine, one met lately", x.heels(0), 9);
  }

  /** Day 999 is beyond the 512 calls for which answers are promised; the class keeps its rule there too. */
  private static void lastDay() {
    FeetRoads x = Due.days(fading('l', 30), 998);
    Due.is("day 998", x.count(5), 998);
    Due.is("day 999", x.day(), 999);
    Due.is("no day 1000", x.day(), FULL);
    Due.is("day 999 stays", x.count(5), 999);
    Due.is("nobody 99 days later", x.nobody(99), 1);
    Due.is("acts kept", x.count(7), 24);
    Due.is("day 999 undone", x.undo(), 23);
    Due.is("day 999 again", x.day(), 999);
  }

  /** An act undone leaves the object as it was. */
  private static void undoEach() {
    List<ToLongFunction<FeetRoads>> acts = List.of(x -> x.walk(2, 4), x -> x.walk(1, 1), x -> x.lead(1, 0, 1),
        x -> x.lead(1, 0, 2), x -> x.change(1, 2), x -> x.heels(0), x -> x.heels(1), x -> x.day());
    for (int k = 0; k < acts.size(); k++) {
      ToLongFunction<FeetRoads> act = acts.get(k);
      Due.is("act " + k + " goes", act.applyAsLong(Twins.busy()) >= 0 ? 1 : 0, 1);
      Twins.unchanged("act " + k + " undone", Twins::busy, x -> act.applyAsLong(x) + x.undo());
    }
  }

  private static void undo24() {
    for (int acts : new int[] {1, 23, 24, 25, 48, 49, 100}) {
      FeetRoads x = Due.days(fading('l', 1), acts);
      int kept = Math.min(acts, 24);
      Due.is(acts + " acts, kept", x.count(7), kept);
      for (int left = kept - 1; left >= 0; left--) {
        Due.is(acts + " acts, undone", x.undo(), left);
        Due.is(acts + " acts, the day", x.count(5), acts - kept + left);
      }
      Due.is(acts + " acts, no more", x.undo(), STATE);
      Due.is(acts + " acts, the first day", x.count(5), acts - kept);
    }
  }

  private static void undoThenAct() {
    FeetRoads x = Due.days(fading('h', 1), 30);
    for (int k = 0; k < 10; k++) {
      x.undo();
    }
    Due.is("14 acts left", x.count(7), 14);
    for (int k = 0; k < 10; k++) {
      x.walk(0, 0);
    }
    Due.is("24 acts again", x.count(7), 24);
    x.walk(0, 0);
    Due.is("24 acts still", x.count(7), 24);
    for (int k = 0; k < 11; k++) {
      x.undo();
    }
    Due.is("walks undone", x.met(0, 0, 0) * 100 + x.count(5), 220);
    for (int k = 12; k >= 0; k--) {
      Due.is("days undone", x.undo(), k);
    }
    Due.is("the oldest are forgotten", x.undo(), STATE);
    Due.is("day 7", x.count(5), 7);
  }

  private static void undoNone() {
    FeetRoads x = fading('l', 1);
    Due.is("no act yet", x.undo(), STATE);
    x.walk(1, 0);
    x.change(0, 0);
    x.heels(2);
    Due.is("refused acts are none", x.undo(), STATE);
    x.image(0);
    Due.is("an image is no act", x.undo(), STATE);
    x.day();
    x.image(0);
    Due.is("an image leaves acts", x.count(7), 1);
    x.restore(0);
    Due.is("no act behind restore", x.undo(), STATE);
    x.day();
    Due.is("an act behind restore", x.undo(), 0);
    x.day();
    Due.fed(x, "f1,2;").land();
    Due.is("no act behind a land", x.undo(), STATE);
    x.day();
    x.land();
    Due.is("acts stay behind a fault", x.undo(), 0);
  }

  private static void personTold() {
    FeetRoads x = Due.landOf("f1,8;" + Due.times("h0,7,1;", 9) + "p0,0;p7,0;p6,0;p5,0;");
    Due.is("place 0", x.person(0, 0), 0);
    Due.is("place 7", x.person(1, 0), 7);
    Due.is("SOLE 0", x.person(0, 1), 0);
    Due.is("SOLE 3", x.person(3, 1), 3);
    Due.is("all nine open", x.person(3, 2), 511);
    Due.all("no such one", BAD, x.person(4, 0), x.person(-1, 0), x.person(4, 2), x.person(3, 3), x.person(3, -1));
  }

  private static void roadTold() {
    FeetRoads x = Due.landOf("f1,8;" + Due.times("l7,0,9;", 8) + "h0,7,1;p0,255;p7,0;p6,0;p5,255;");
    Due.is("one end, as told", x.road(0, 0), 7);
    Due.is("the other end, as told", x.road(0, 1), 0);
    Due.is("LONG 9", x.road(7, 2), 9);
    Due.is("LONG 1", x.road(8, 2), 1);
    Due.is("SOLES, some", x.road(7, 3), 9);
    Due.is("SOLES, all", x.road(8, 3), 15);
    Due.all("no such road", BAD, x.road(9, 0), x.road(-1, 3), x.road(8, 4), x.road(8, -1));
    x.change(0, 1);
    Due.is("SOLES, not those who have them", x.road(7, 3), 9);
    Due.is("nine roads and no tenth open", x.person(1, 2) * 1000 + x.person(2, 2), 511256);
  }

  private static void metTold() {
    FeetRoads x = Due.landOf("f1,2;" + Due.times("l0,1,1;", 9) + "p0,0;p0,0;p0,0;p0,256;");
    Due.is("met, the last of all", x.met(8, 3, 0) * 10 + x.met(8, 3, 1), 20);
    Due.is("never met", x.met(8, 2, 0), 0);
    Due.is("never met, no day", x.met(8, 2, 1), NONE);
    Due.all("no such meeting", BAD, x.met(9, 3, 0), x.met(8, 4, 0), x.met(8, 3, 2), x.met(-1, 3, 0), x.met(8, -1, 0),
        x.met(8, 3, -1));
    x.day();
    Due.is("the day stays", x.met(8, 3, 1), 0);
    x.walk(3, 8);
    Due.is("the day of a walk", x.met(8, 3, 1), 1);
    for (int k = 0; k < 40; k++) {
      x.walk(3, 8);
    }
    Due.is("met ever so often", x.met(8, 3, 0), 43);
  }

  private static void images() {
    FeetRoads x = Due.landOf("f5,3;l0,1,1;r0,1,4;p0,1;p0,0;");
    x.walk(0, 1);
    x.walk(0, 0);
    x.change(0, 1);
    x.day();
    Due.is("an image", x.image(0), 1);
    x.day();
    x.heels(1);
    x.walk(1, 1);
    Due.is("restored", x.restore(0), 1);
    Due.is("restored: day, spent, acts", x.count(5) * 100 + x.count(6) * 10 + x.count(7), 140);
    Due.is("restored: soles", x.person(0, 1) * 10 + x.person(1, 1), 10);
    Due.is("restored: places", x.person(0, 0) * 10 + x.person(1, 0), 0);
    Due.is("restored: meetings", x.met(0, 0, 0) * 10 + x.met(0, 0, 1), 30);
    x.day();
    Due.is("restored twice", x.restore(0), 1);
    Due.is("restored twice: the day", x.count(5), 1);
    Due.fed(x, "f1,2;").land();
    Due.is("restored in place of another land", x.restore(0), 1);
    Due.is("restored in place of another land: all of it",
        x.count(1) * 1000 + x.count(2) * 100 + x.count(3) * 10 + x.count(4), 2235);
  }

  private static void imagesAreTwo() {
    FeetRoads x = Due.landOf("f5,3;");
    x.image(1);
    Due.is("image 0 was not kept", x.restore(0), STATE);
    x.day();
    x.image(0);
    x.day();
    x.restore(1);
    Due.is("image 1", x.count(5), 0);
    x.restore(0);
    Due.is("image 0", x.count(5), 1);
    x.day();
    x.image(0);
    x.restore(1);
    Due.is("image 1 still", x.count(5), 0);
    x.restore(0);
    Due.is("image 0 in place of the one before", x.count(5), 2);
  }

  private static void imageLeavesTheRest() {
    FeetRoads x = Twins.busy();
    x.restore(0);
    Due.is("rows stay", x.count(0), 4);
    Due.is("the tape stays", x.count(8), 5);
    Due.is("the trace stays", x.trace(0) * 100 + x.trace(4), 2310);
    Due.is("the fault stays", x.fault(), 2);
    Due.is("the status stays", x.status(), 5);
    Twins.unchanged("image 0 once more", ActEdgesTest::keptTwice, y -> y.image(0));
  }

  private static FeetRoads keptTwice() {
    FeetRoads x = Twins.busy();
    x.image(0);
    return x;
  }
}
