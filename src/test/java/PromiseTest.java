/** Each promise of the document with ordinary inputs, the edges that it names and wrong inputs. */
public final class PromiseTest {
  private static final int NONE = FeetRoads.NONE, BAD = FeetRoads.BAD, STATE = FeetRoads.STATE, FULL = FeetRoads.FULL;

  private static final String TOWN = Due.TOWN;

  public static void main(String[] args) {
    newObject();
    row();
    set();
    copy();
    drop();
    feed();
    landFaults();
    landRead();
    fault();
    walk();
    opensLane();
    opensNarrow();
    opensOld();
    lead();
    change();
    heels();
    day();
    undo();
    person();
    road();
    met();
    reach();
    way();
    led();
    introduced();
    forgets();
    nobody();
    round();
    bars();
    meet();
    whose();
    snow();
    images();
    kind();
    as();
    ask();
    trace();
    count();
    status();
    Due.end();
  }

  private static void newObject() {
    FeetRoads x = new FeetRoads();
    for (int what = 0; what <= 8; what++) {
      Due.is("new count " + what, x.count(what), 0);
    }
    Due.is("new status", x.status(), 0);
    Due.is("new fault", x.fault(), 0);
    Due.is("new day", x.day(), STATE);
    Due.is("new trace", x.trace(0), NONE);
    Due.is("NONE", NONE, -1000000);
    Due.is("BAD", BAD, -1000001);
    Due.is("STATE", STATE, -1000002);
    Due.is("FULL", FULL, -1000003);
  }

  private static void row() {
    FeetRoads x = new FeetRoads();
    Due.is("row of 40", x.row(7, 2, 40), 40);
    Due.is("row of 0", x.row(0, 0, 0), 0);
    Due.all("row wrong", BAD, x.row(8, 0, 1), x.row(-1, 0, 1), x.row(0, 3, 1), x.row(0, -1, 1), x.row(0, 0, 41),
        x.row(8, 0, -1), x.row(0, 3, -1));
    Due.is("row of fewer than none", x.row(7, 0, -1), Due.SIZE);
    Due.is("row stays when found", x.set(7, 39, 70000), 70000);
    Due.is("row in place", x.row(7, 2, 40), 40);
    x.row(6, 2, 40);
    x.copy(7, 0, 6, 0, 40);
    Due.is("rows there", x.count(0), 3);
    FeetRoads y = Due.landOf(TOWN);
    y.row(0, 2, 3);
    y.set(0, 0, 6);
    Due.is("items are 0 at first", y.whose(0, 1, 1, 0), 1);
    y.row(0, 2, 3);
    Due.is("items are 0 anew", y.whose(0, 0, 1, 0), 1);
  }

  private static void set() {
    FeetRoads x = new FeetRoads();
    x.row(0, 0, 2);
    x.row(1, 1, 2);
    x.row(2, 2, 2);
    Due.is("byte 127", x.set(0, 0, 127), 127);
    Due.is("byte 128", x.set(0, 0, 128), -128);
    Due.is("byte -129", x.set(0, 1, -129), 127);
    Due.is("short 32768", x.set(1, 1, 32768), -32768);
    Due.is("short 65535", x.set(1, 0, 65535), -1);
    Due.is("int least", x.set(2, 1, Integer.MIN_VALUE), Integer.MIN_VALUE);
    Due.all("set no row", BAD, x.set(8, 0, 0), x.set(-1, 9, 0));
    Due.all("set missing", Due.NULL, x.set(3, 0, 0), x.set(3, -1, 0));
    Due.all("set no place", Due.PLACE, x.set(0, 2, 0), x.set(0, -1, 0), x.set(0, Integer.MAX_VALUE, 0));
  }

  private static void copy() {
    FeetRoads x = Due.landOf(TOWN);
    x.row(0, 0, 4);
    x.row(1, 1, 4);
    x.row(2, 0, 3);
    x.set(0, 0, 0);
    x.set(0, 1, 6);
    x.set(0, 2, 3);
    x.set(0, 3, 2);
    Due.is("copy onto itself", x.copy(0, 0, 0, 1, 3), 3);
    Due.is("copied as they were ahead", x.whose(0, 1, 3, 0), 1);
    Due.is("copy none at the end", x.copy(0, 4, 2, 3, 0), 0);
    Due.is("copy to another", x.copy(0, 1, 2, 0, 3), 3);
    Due.is("copied to another", x.whose(2, 0, 3, 0), 1);
    Due.all("copy no row", BAD, x.copy(8, 0, 0, 0, 1), x.copy(0, 0, 8, 0, 1), x.copy(-1, 0, 3, 0, 1));
    Due.all("copy missing", Due.NULL, x.copy(0, 0, 3, 0, 9), x.copy(3, 0, 1, 0, 1), x.copy(4, 0, 4, 0, 0));
    Due.all("copy of two lanes", Due.STORE, x.copy(0, 0, 1, 0, 1), x.copy(1, -1, 0, 0, 1), x.copy(0, 0, 1, 0, -1));
    Due.all("copy no place", Due.PLACE, x.copy(0, -1, 0, 0, 1), x.copy(0, 0, 0, -1, 1), x.copy(0, 0, 0, 0, -1),
        x.copy(0, 0, 0, 0, 5), x.copy(0, 2, 0, 0, 3), x.copy(0, 0, 2, 1, 3), x.copy(0, 5, 0, 0, 0),
        x.copy(0, Integer.MAX_VALUE, 0, 0, 1), x.copy(0, 1, 0, 0, Integer.MAX_VALUE));
  }

  private static void drop() {
    FeetRoads x = new FeetRoads();
    x.row(3, 1, 17);
    Due.is("drop", x.drop(3), 17);
    Due.is("dropped", x.drop(3), Due.NULL);
    Due.is("dropped is missing", x.set(3, 0, 0), Due.NULL);
    Due.all("drop no row", BAD, x.drop(8), x.drop(-1));
    Due.is("no row there", x.count(0), 0);
  }

  private static void feed() {
    FeetRoads x = new FeetRoads();
    Due.all("feed no byte", BAD, x.feed(-1), x.feed(256));
    for (int i = 1; i <= 120; i++) {
      Due.is("feed", x.feed(i == 1 ? 0 : 255), i);
    }
    Due.is("feed a full tape", x.feed(0), FULL);
    Due.is("feed a full tape no byte", x.feed(256), BAD);
    Due.is("a full tape", x.count(8), 120);
    x.land();
    Due.is("an empty tape", x.count(8), 0);
    Due.is("feed anew", x.feed(102), 1);
  }

  private static void refusedText(String text, int place, int number) {
    FeetRoads x = Due.landOf("f9,3;l0,1,4;p0,0;");
    x.day();
    Due.fed(x, text);
    Due.is("land of " + text, x.land(), -1000100 - place);
    Due.is("fault of " + text, x.fault(), number);
    Due.is("the tape after " + text, x.count(8), 0);
    Due.is("the land after " + text, x.count(4) * 100 + x.count(5) * 10 + x.count(7), 911);
  }

  private static void landFaults() {
    refusedText("", 0, 1);
    refusedText("f", 1, 1);
    refusedText("g1,2;", 0, 1);
    refusedText(" f1,2;", 0, 1);
    refusedText("F1,2;", 0, 1);
    refusedText("f,", 1, 1);
    refusedText("f0,2;", 1, 2);
    refusedText("f31,2;", 1, 2);
    refusedText("f100,2;", 1, 2);
    refusedText("f1 ,2;", 2, 1);
    refusedText("f1,1;", 3, 2);
    refusedText("f1,9;", 3, 2);
    refusedText("f1,2", 4, 1);
    refusedText("f1,2,", 4, 1);
    refusedText("f1,2;f", 5, 1);
    refusedText("f1,2;7", 5, 1);
    refusedText("f1,2;;", 5, 1);
    refusedText("f1,2;l", 6, 1);
    refusedText("f1,2;l2,0,1;", 6, 2);
    refusedText("f1,2;l1,2,1;", 8, 2);
    refusedText("f1,2;l1,1,1;", 8, 2);
    refusedText("f1,2;l1,01,1;", 8, 2);
    refusedText("f1,2;l1,0,0;", 10, 2);
    refusedText("f1,2;l1,0,10;", 10, 2);
    refusedText("f1,2;l1,0;", 9, 1);
    refusedText("f1,2;p2,0;", 6, 2);
    refusedText("f1,2;p0,1;", 8, 2);
    refusedText("f1,2;l0,1,1;p0,2;", 15, 2);
    refusedText("f1,2;p0;", 7, 1);
    refusedText("f1,2;p0,0;l0,1,1;", 10, 1);
    refusedText("f1,2;p0,0;x", 10, 1);
    refusedText("f1,2;p0,0;f", 10, 1);
    refusedText("f1,2;" + Due.times("l0,1,1;", 9) + "h", 68, 3);
    refusedText("f1,2;" + Due.times("l0,1,1;", 9) + "x", 68, 1);
    refusedText("f1,2;" + Due.times("l0,1,1;", 9) + "p0,0;h", 73, 1);
    refusedText("f1,2;" + Due.times("p0,0;", 4) + "p", 25, 3);
    refusedText("f1,2;" + Due.times("p0,0;", 4) + "l", 25, 1);
    refusedText("f1,2;" + Due.times("l0,1,1;", 9) + "p0,512;", 71, 2);
    // a run of more than three figures is no token
    refusedText("f0001,2;", 1, 1);
    refusedText("f1,2;l0,1,1;p0,0001;", 15, 1);
    refusedText("f1,2;l0,1,99999999999999;", 10, 1);
    refusedText("f1,2;" + (char) 0, 5, 1);
    refusedText("f1,2;" + (char) 236, 5, 1);
  }

  private static void landRead() {
    FeetRoads x = Due.fed(new FeetRoads(), "f001,002;");
    Due.is("land without people", x.land(), 0);
    Due.is("land without people stands", x.day(), 1);
    Due.fed(x, "f30,8;" + Due.times("l0,7,9;", 9) + Due.times("p7,511;", 4));
    Due.is("a full land", x.land(), 4);
    Due.is("day anew", x.count(5), 0);
    Due.is("acts anew", x.count(7), 0);
    Due.is("all known", x.person(3, 2), 511);
    Due.is("roads", x.count(1), 9);
    Due.fed(x, "f1,2;r0,1,5;h0,1,5;p0,3;");
    Due.is("a land in place", x.land(), 1);
    Due.is("a river meets none", x.met(0, 0, 0), 0);
    Due.is("a highway has met", x.met(1, 0, 0), 2);
    x.walk(0, 0);
    Due.is("spent", x.count(6), 5);
    Due.fed(x, "f1,2;");
    x.land();
    Due.is("spent anew", x.count(6), 0);
  }

  private static void fault() {
    FeetRoads x = Due.fed(new FeetRoads(), "f0");
    x.land();
    Due.is("fault", x.fault(), 2);
    Due.fed(x, "f1,2;");
    x.land();
    Due.is("fault stays when a land is read", x.fault(), 2);
    x.land();
    Due.is("latest fault", x.fault(), 1);
  }

  private static void walk() {
    FeetRoads x = Due.landOf(TOWN);
    Due.all("walk wrong", BAD, x.walk(3, 0), x.walk(-1, 0), x.walk(0, 7), x.walk(0, -1));
    Due.is("walk at no end", x.walk(0, 3), STATE);
    Due.is("walk closed", x.walk(1, 0), STATE);
    Due.is("refused walks are no acts", x.count(7), 0);
    Due.is("walk a lane", x.walk(0, 0), 1);
    Due.is("walk back", x.walk(0, 0), 0);
    Due.is("met by walks", x.met(0, 0, 0), 4);
    Due.is("walk the river", x.walk(0, 4), 4);
    Due.is("walk the river back", x.walk(0, 4), 0);
    Due.is("a river meets none", x.met(4, 0, 0), 0);
    Due.is("spent", x.count(6), 12);
    Due.is("walk the highway", x.walk(2, 3), 3);
    Due.is("a highway meets", x.met(3, 2, 0), 1);
    Due.is("spent on a river only", x.count(6), 12);
    Due.is("acts", x.count(7), 5);
  }

  private static void opensLane() {
    FeetRoads x = Due.landOf("f2,2;l0,1,1;h0,1,1;p0,1;p0,0;");
    x.day();
    x.day();
    Due.is("a lane FADE days later", x.road(0, 3), 1);
    x.day();
    Due.is("a lane one day more", x.road(0, 3), 0);
    Due.is("walk a lane that forgot", x.walk(0, 0), STATE);
    FeetRoads y = Due.landOf("f2,2;l0,1,1;p0,1;p0,0;");
    y.lead(0, 1, 0);
    Due.is("a lane that met once", y.road(0, 3), 3);
  }

  private static void opensNarrow() {
    FeetRoads x = Due.landOf("f2,2;n0,1,1;p0,1;p0,0;");
    x.lead(0, 1, 0);
    Due.is("a narrow one that met once", x.road(0, 3), 1);
    x.day();
    x.day();
    x.lead(0, 1, 0);
    Due.is("a narrow one that met twice", x.road(0, 3), 3);
    x.day();
    x.day();
    Due.is("a narrow one: the last meeting counts", x.road(0, 3), 3);
    x.day();
    Due.is("a narrow one that forgot", x.road(0, 3), 0);
  }

  private static void opensOld() {
    FeetRoads x = Due.landOf("f2,2;o0,1,1;p0,1;p0,0;");
    Due.is("an old one that never met one", x.road(0, 3), 1);
    x.day();
    x.lead(0, 1, 0);
    Due.is("an old one that met once", x.road(0, 3), 3);
    Due.is("it met once", x.met(0, 1, 0), 1);
    Due.days(x, 4);
    Due.is("an old one, twice FADE days later", x.road(0, 3), 3);
    Due.is("an old one, twice FADE days later, by the person", x.person(1, 2), 1);
    x.walk(1, 0);
    x.day();
    Due.is("an old one, one day more", x.road(0, 3), 2);
    Due.is("walk an old one that forgot", x.walk(0, 0), STATE);
    Due.days(x, 3);
    Due.is("an old one: the last meeting counts", x.road(0, 3), 2);
    x.day();
    Due.is("an old one that forgot", x.road(0, 3), 0);
    Due.is("an old one still counts", x.met(0, 1, 0), 2);
  }

  private static void lead() {
    FeetRoads x = Due.landOf(TOWN);
    Due.all("lead wrong", BAD, x.lead(0, 0, 0), x.lead(0, 3, 0), x.lead(-1, 0, 0), x.lead(0, 1, 7), x.lead(0, 1, -1));
    Due.is("lead apart", x.lead(0, 1, 0), STATE);
    x.walk(0, 0);
    Due.is("lead closed to the first", x.lead(0, 1, 1), STATE);
    Due.is("lead at no end", x.lead(0, 1, 3), STATE);
    Due.is("lead", x.lead(1, 0, 1), 2);
    Due.is("both went", x.person(0, 0) * 10 + x.person(1, 0), 22);
    Due.is("the led is met", x.met(1, 0, 0), 1);
    Due.is("the leader is met", x.met(1, 1, 0), 3);
    FeetRoads y = Due.landOf("f1,2;r0,1,7;p0,0;p0,0;");
    Due.is("lead over the river", y.lead(1, 0, 0), 1);
    Due.is("both pay", y.count(6), 14);
    Due.is("one act", y.count(7), 1);
    y.walk(0, 0);
    Due.is("lead from two ends of a road", y.lead(0, 1, 0), STATE);
  }

  private static void change() {
    FeetRoads x = Due.landOf(TOWN);
    Due.all("change wrong", BAD, x.change(0, 0), x.change(0, 3), x.change(-1, 0));
    Due.is("change", x.change(0, 1), 1);
    Due.is("the other's sole", x.person(1, 1), 0);
    Due.is("roads open to the new sole", x.person(0, 2), 30);
    Due.is("change again", x.change(2, 0), 1);
    Due.is("change again, other", x.person(0, 1), 2);
    Due.is("roads keep soles", x.road(0, 3), 1);
    Due.is("places stay", x.person(0, 0), 0);
  }

  private static void heels() {
    FeetRoads x = Due.landOf(TOWN);
    Due.all("heels wrong", BAD, x.heels(3), x.heels(-1));
    x.change(0, 1);
    Due.is("heels", x.heels(0), 2);
    Due.is("heels forget", x.met(1, 1, 0), 0);
    Due.is("heels forget the day", x.met(1, 1, 1), NONE);
    Due.is("other soles stay", x.met(0, 0, 0), 2);
    Due.is("heels again", x.heels(0), 0);
    Due.is("heels are acts", x.count(7), 3);
    x.walk(2, 3);
    Due.is("a highway is counted", x.heels(2), 1);
    FeetRoads y = Due.landOf("f9,2;n0,1,1;o0,1,1;p0,3;p0,3;");
    y.heels(0);
    Due.is("an old one does not know new heels", y.road(1, 3), 2);
    y.lead(1, 0, 0);
    Due.is("a narrow one does not count what was before", y.road(0, 3), 2);
  }

  private static void day() {
    FeetRoads x = new FeetRoads();
    Due.is("day without a land", x.day(), STATE);
    x = Due.landOf("f1,2;");
    for (int k = 1; k <= 400; k++) {
      Due.is("day", x.day(), k);
    }
    Due.is("acts kept", x.count(7), 24);
    FeetRoads y = Due.landOf("f1,2;");
    for (int k = 1; k <= 999; k++) {
      y.day();
    }
    Due.is("the last day", y.day(), FULL);
    Due.is("the last day stays", y.count(5), 999);
  }

  private static void undo() {
    FeetRoads x = Due.landOf(TOWN);
    Due.is("undo none", x.undo(), STATE);
    x.walk(0, 4);
    x.lead(2, 0, 3);
    x.change(0, 1);
    x.heels(0);
    x.day();
    Due.is("undo a day", x.undo(), 4);
    Due.is("the day is back", x.count(5), 0);
    Due.is("undo heels", x.undo(), 3);
    Due.is("meetings are back", x.met(2, 1, 0), 2);
    Due.is("undo change", x.undo(), 2);
    Due.is("soles are back", x.person(0, 1), 0);
    Due.is("undo lead", x.undo(), 1);
    Due.is("both are back", x.person(0, 0) * 10 + x.person(2, 0), 44);
    Due.is("the highway forgets", x.met(3, 0, 1), NONE);
    Due.is("undo walk", x.undo(), 0);
    Due.is("pennies are back", x.count(6), 0);
    Due.is("undo no more", x.undo(), STATE);
    for (int k = 0; k < 30; k++) {
      x.day();
    }
    for (int k = 23; k >= 0; k--) {
      Due.is("undo of 24", x.undo(), k);
    }
    Due.is("the oldest are forgotten", x.undo(), STATE);
    Due.is("six days stay", x.count(5), 6);
    x.day();
    Due.fed(x, "f1");
    x.land();
    Due.is("a fault keeps acts", x.count(7), 1);
    Due.fed(x, TOWN);
    x.land();
    Due.is("a new land: no acts", x.undo(), STATE);
  }

  private static void person() {
    FeetRoads x = Due.landOf(TOWN);
    Due.is("person place", x.person(2, 0), 4);
    Due.is("person sole", x.person(2, 1), 2);
    Due.is("person roads", x.person(1, 2), 30);
    Due.all("person wrong", BAD, x.person(3, 0), x.person(-1, 0), x.person(0, 3), x.person(0, -1));
  }

  private static void road() {
    FeetRoads x = Due.landOf(TOWN);
    Due.is("road ends as told", x.road(5, 0) * 10 + x.road(5, 1), 20);
    Due.is("road long", x.road(5, 2), 9);
    Due.is("road soles", x.road(3, 3), 7);
    Due.is("road soles of a lane", x.road(5, 3), 1);
    Due.all("road wrong", BAD, x.road(7, 0), x.road(-1, 0), x.road(0, 4), x.road(0, -1));
  }

  private static void met() {
    FeetRoads x = Due.landOf(TOWN);
    Due.is("met twice", x.met(0, 0, 0), 2);
    Due.is("met on day 0", x.met(0, 0, 1), 0);
    Due.is("never met", x.met(0, 1, 0), 0);
    Due.is("never met: no day", x.met(0, 1, 1), NONE);
    x.day();
    x.walk(0, 0);
    Due.is("met thrice", x.met(0, 0, 0), 3);
    Due.is("met on day 1", x.met(0, 0, 1), 1);
    Due.all("met wrong", BAD, x.met(7, 0, 0), x.met(-1, 0, 0), x.met(0, 3, 0), x.met(0, -1, 0), x.met(0, 0, 2),
        x.met(0, 0, -1));
  }

  private static void reach() {
    FeetRoads x = Due.landOf(TOWN);
    Due.is("reach", x.reach(2), 25);
    Due.is("reach all but one", x.reach(0), 31);
    Due.all("reach wrong", BAD, x.reach(3), x.reach(-1));
    FeetRoads y = Due.landOf("f1,8;p7,0;");
    Due.is("reach where it is", y.reach(0), 128);
  }

  private static void way() {
    FeetRoads x = Due.landOf(TOWN);
    Due.is("way", x.way(0, 3), 7);
    Due.is("way here", x.way(0, 0), 0);
    Due.is("no way", x.way(2, 1), NONE);
    Due.all("way wrong", BAD, x.way(3, 0), x.way(-1, 0), x.way(0, 6), x.way(0, -1));
    x.change(0, 1);
    Due.is("way by the other sole", x.way(0, 1), 16);
  }

  private static void led() {
    FeetRoads x = Due.landOf(TOWN);
    Due.is("led", x.led(0, 1, 2), 4 + 3);
    Due.is("led by one elsewhere", x.led(2, 0, 1), 1);
    Due.is("led nowhere", x.led(0, 1, 5), NONE);
    Due.all("led wrong", BAD, x.led(0, 0, 0), x.led(3, 0, 0), x.led(0, 3, 0), x.led(0, 1, 6), x.led(0, 1, -1));
  }

  private static void introduced() {
    FeetRoads x = Due.landOf(TOWN);
    Due.is("introduced", x.introduced(2, 2, 0), 1);
    Due.is("introduced long", x.introduced(2, 2, 1), 7);
    Due.is("introduced to none", x.introduced(0, 3, 0), 0);
    Due.is("introduced to none, long", x.introduced(0, 3, 1), 7);
    Due.is("introduced nowhere", x.introduced(0, 5, 0), NONE);
    Due.is("introduced nowhere, long", x.introduced(0, 5, 1), NONE);
    Due.all("introduced wrong", BAD, x.introduced(3, 0, 0), x.introduced(0, 6, 0), x.introduced(0, 0, 2),
        x.introduced(0, 0, -1), x.introduced(-1, 0, 0), x.introduced(0, -1, 0));
    FeetRoads y = Due.landOf("f1,3;l0,1,1;l1,2,1;l0,2,9;p0,0;");
    Due.is("the fewest, though longer", y.introduced(0, 2, 0), 1);
    Due.is("the fewest, though longer: long", y.introduced(0, 2, 1), 9);
  }

  private static void forgets() {
    FeetRoads x = new FeetRoads();
    Due.is("forgets without a land", x.forgets(), STATE);
    x = Due.landOf("f3,2;l0,1,1;n0,1,1;o0,1,1;h0,1,1;p0,7;p0,0;");
    Due.is("forgets", x.forgets(), 4);
    x.day();
    Due.is("forgets a day later", x.forgets(), 3);
    x.walk(0, 2);
    Due.is("forgets: the others", x.forgets(), 3);
    x.walk(0, 1);
    x.walk(0, 0);
    Due.is("forgets: all met today", x.forgets(), 4);
    FeetRoads old = Due.landOf("f3,2;o0,1,1;p0,1;");
    Due.is("forgets: an old one, behind twice FADE", old.forgets(), 7);
    Due.days(old, 6);
    Due.is("forgets: an old one, tomorrow", old.forgets(), 1);
    old.day();
    Due.is("forgets: an old one that forgot", old.forgets(), NONE);
    x.walk(0, 3);
    x.heels(0);
    Due.is("forgets nothing", x.forgets(), NONE);
    Due.is("a highway forgets nothing that opens it", Due.landOf("f1,2;h0,1,1;p0,1;").forgets(), NONE);
    FeetRoads y = Due.landOf("f3,2;l0,1,1;p0,1;p0,1;");
    y.day();
    y.walk(0, 0);
    Due.is("forgets one of two soles", y.forgets(), 3);
  }

  private static void nobody() {
    FeetRoads x = new FeetRoads();
    Due.all("nobody without a land", STATE, x.nobody(0), x.nobody(-1), x.nobody(100));
    x = Due.landOf(TOWN);
    Due.is("nobody now", x.nobody(0), 0);
    Due.is("nobody in 3 days", x.nobody(3), 0);
    Due.is("nobody in 4 days, but an old one", x.nobody(4), 99);
    Due.is("nobody in 6 days, but an old one", x.nobody(6), 99);
    Due.is("nobody in 7 days", x.nobody(7), 103);
    Due.is("nobody in 99 days", x.nobody(99), 103);
    Due.all("nobody wrong", BAD, x.nobody(-1), x.nobody(100));
    x.day();
    x.walk(0, 0);
    Due.is("nobody, one met later", x.nobody(3), 98);
    Due.is("nobody where nobody is", Due.landOf("f1,2;l0,1,1;r0,1,1;o0,1,1;").nobody(0), 5);
  }

  private static void round() {
    FeetRoads x = Due.landOf(TOWN);
    Due.is("round", x.round(0), 28);
    Due.is("round without any", x.round(2), 0);
    Due.all("round wrong", BAD, x.round(3), x.round(-1));
    FeetRoads y = Due.landOf("f1,4;l0,1,1;l2,3,1;p0,3;p0,2;p2,2;");
    Due.is("no round", y.round(0), NONE);
    Due.is("no round from elsewhere", y.round(1), NONE);
    Due.is("round there and back", y.round(2), 2);
    FeetRoads z = Due.landOf("f1,4;l0,1,2;l1,2,2;l2,3,2;l3,0,2;h0,2,1;p0,15;");
    Due.is("round once about", z.round(0), 8);
    FeetRoads w = Due.landOf("f1,4;l0,1,9;h0,1,2;r1,2,3;l2,3,4;p0,15;");
    Due.is("round by highway and river", w.round(0), 9 + 2 + 6 + 8);
  }

  private static void bars() {
    FeetRoads x = Due.landOf(TOWN);
    Due.is("bars", x.bars(0, 4, 0), 2);
    Due.is("bars: the least", x.bars(0, 4, 1), 1 + 16);
    Due.is("bars against nothing", x.bars(2, 1, 0), 0);
    Due.is("bars against nothing, which", x.bars(2, 1, 1), 0);
    Due.is("bars: it is there", x.bars(0, 0, 0), NONE);
    Due.is("bars: it is there, which", x.bars(0, 0, 1), NONE);
    Due.all("bars wrong", BAD, x.bars(3, 0, 0), x.bars(0, 6, 0), x.bars(0, 0, 2), x.bars(0, 0, -1), x.bars(-1, 0, 0),
        x.bars(0, -1, 0));
    FeetRoads y = Due.landOf("f1,2;" + Due.times("h0,1,1;", 9) + "p0,0;");
    Due.is("bars: all nine", y.bars(0, 1, 0), 9);
    Due.is("bars: all nine, which", y.bars(0, 1, 1), 511);
    FeetRoads z = Due.landOf("f1,3;h1,2,1;h1,2,1;h0,1,1;p0,0;");
    Due.is("bars: few ahead of least", z.bars(0, 2, 1), 4);
  }

  private static void meet() {
    FeetRoads x = Due.landOf(TOWN);
    Due.is("meet", x.meet(1, 2, 0), 3);
    Due.is("meet long", x.meet(1, 2, 1), 10);
    Due.all("meet wrong", BAD, x.meet(0, 0, 0), x.meet(0, 3, 0), x.meet(-1, 0, 0), x.meet(0, 1, 2), x.meet(0, 1, -1));
    FeetRoads y = Due.landOf("f1,4;h1,2,3;p2,0;p1,0;p0,0;");
    Due.is("meet: the first of several", y.meet(0, 1, 0), 1);
    Due.is("meet: nowhere", y.meet(0, 2, 0), NONE);
    Due.is("meet: nowhere, long", y.meet(0, 2, 1), NONE);
  }

  private static void whose() {
    FeetRoads x = new FeetRoads();
    Due.all("whose without a land", STATE, x.whose(0, 0, 0, 0), x.whose(9, 0, 0, 0));
    x = Due.landOf(TOWN);
    Due.all("whose wrong", BAD, x.whose(8, 0, 0, 0), x.whose(-1, 0, 0, 0), x.whose(0, 0, -1, 0), x.whose(0, 0, 17, 0),
        x.whose(0, 0, 0, 6), x.whose(0, 0, 0, -1));
    Due.is("whose missing", x.whose(0, -1, 0, 0), Due.NULL);
    x.row(0, 1, 20);
    Due.all("whose no place", Due.PLACE, x.whose(0, -1, 1, 0), x.whose(0, 20, 1, 0), x.whose(0, 5, 16, 0),
        x.whose(0, 21, 0, 0), x.whose(0, Integer.MAX_VALUE, 16, 0));
    Due.is("whose none", x.whose(0, 20, 0, 5), 7);
    Due.is("whose to and fro", x.whose(0, 0, 16, 0), 1);
    x.set(0, 0, 4);
    x.set(0, 1, 3);
    Due.is("whose over river and highway", x.whose(0, 0, 2, 0), 7);
    x.set(0, 2, 2);
    Due.is("whose over the old one", x.whose(0, 0, 3, 0), 2);
    x.set(0, 3, 0);
    Due.is("whose that does not begin there", x.whose(0, 0, 4, 0), BAD);
    x.set(0, 3, 7);
    Due.is("whose over none of the roads", x.whose(0, 0, 4, 0), BAD);
    x.set(0, 3, -1);
    Due.is("whose over none of the roads, below", x.whose(0, 0, 4, 0), BAD);
    Due.is("whose from the other end", x.whose(0, 2, 1, 2), 2);
    Due.is("whose walks change nothing", x.met(2, 1, 0) * 10 + x.count(7), 20);
  }

  private static void snow() {
    FeetRoads x = Due.landOf(TOWN);
    Due.is("snow above", x.snow(0, 4, 3, 0), 847);
    Due.is("snow below", x.snow(0, 4, 3, 1), 1000);
    Due.is("snow in lowest terms", x.snow(2, 3, 5, 0) * 10 + x.snow(2, 3, 5, 1), 12);
    Due.is("no snow", x.snow(0, 4, 0, 0) * 10 + x.snow(0, 4, 0, 1), 11);
    Due.is("all snow", x.snow(0, 4, 10, 0) * 10 + x.snow(0, 4, 10, 1), 1);
    Due.is("snow where it is", x.snow(0, 0, 10, 0) * 10 + x.snow(0, 0, 10, 1), 11);
    Due.is("snow nowhere", x.snow(0, 5, 4, 0) * 10 + x.snow(0, 5, 4, 1), 1);
    Due.all("snow wrong", BAD, x.snow(3, 0, 0, 0), x.snow(-1, 0, 0, 0), x.snow(0, 6, 0, 0), x.snow(0, -1, 0, 0),
        x.snow(0, 0, 11, 0), x.snow(0, 0, -1, 0), x.snow(0, 0, 0, 2), x.snow(0, 0, 0, -1));
    FeetRoads y = Due.landOf("f1,2;" + Due.times("h0,1,1;", 9) + "p0,0;");
    Due.is("snow on nine, above", y.snow(0, 1, 9, 0), 1000000000L - 387420489L);
    Due.is("snow on nine, below", y.snow(0, 1, 9, 1), 1000000000L);
  }

  private static void images() {
    FeetRoads x = new FeetRoads();
    Due.all("image wrong", BAD, x.image(2), x.image(-1), x.restore(2), x.restore(-1));
    Due.all("image without a land", STATE, x.image(0), x.restore(0));
    x = Due.landOf(TOWN);
    x.walk(0, 4);
    Due.is("image", x.image(1), 1);
    Due.is("image keeps acts", x.count(7), 1);
    Due.is("no such image", x.restore(0), STATE);
    Due.fed(x, "f9,2;");
    x.land();
    Due.is("restore", x.restore(1), 1);
    Due.is("no act after restore", x.undo(), STATE);
    Due.is("restored law", x.count(4) * 10 + x.count(3), 36);
    Due.is("restored place", x.person(0, 0), 4);
    Due.is("restored pennies", x.count(6), 6);
    x.change(0, 1);
    x.heels(0);
    x.day();
    Due.is("restore again", x.restore(1), 1);
    Due.is("no act after restoring over acts", x.undo(), STATE);
    Due.is("restored sole", x.person(0, 1), 0);
    Due.is("restored meeting", x.met(1, 1, 0), 2);
    Due.is("restored day", x.count(5), 0);
    x.walk(0, 4);
    x.image(1);
    x.walk(0, 4);
    x.restore(1);
    Due.is("the image is kept anew", x.person(0, 0), 0);
  }

  private static void kind() {
    FeetRoads x = Due.landOf(TOWN);
    int[] kinds = {1, 2, 3, 4, 5, 1, 1};
    for (int road = 0; road < 7; road++) {
      Due.is("kind " + road, x.kind(road), kinds[road]);
    }
    Due.all("kind wrong", BAD, x.kind(7), x.kind(-1));
  }

  private static void as() {
    FeetRoads x = Due.landOf(TOWN);
    boolean[][] isA = {
        {true, true, false, false, false, false},
        {true, true, true, false, false, false},
        {true, true, false, true, false, false},
        {true, false, false, false, true, false},
        {true, false, false, false, true, true}};
    for (int road = 0; road < 5; road++) {
      for (int kind = 0; kind < 6; kind++) {
        Due.is("as " + road + " " + kind, x.as(road, kind), isA[road][kind] ? road : Due.KIND);
        Due.is("as status", x.status(), isA[road][kind] ? 0 : 3);
      }
    }
    Due.all("as wrong", BAD, x.as(7, 0), x.as(-1, 0), x.as(0, 6), x.as(0, -1));
  }

  private static void askDue(FeetRoads x, int road, int what, int want, int... traced) {
    String name = "ask " + road + " " + what;
    Due.is(name, x.ask(road, what), want);
    for (int i = 0; i < traced.length; i++) {
      Due.is(name + " trace " + i, x.trace(i), traced[i]);
    }
    Due.is(name + " trace end", x.trace(traced.length), NONE);
  }

  private static void ask() {
    FeetRoads x = Due.landOf(TOWN);
    askDue(x, 0, 0, 4 + 0 + 1, 11, 10, 21, 20);
    askDue(x, 1, 0, -(3 + 2 * (1 + 1)), 12, 11, 10, 24, 21, 20);
    askDue(x, 2, 0, 5 + (2 + 1 - 1000), 11, 10, 22, 21, 20);
    askDue(x, 3, 0, 2 - 100, 13, 10);
    askDue(x, 4, 0, 2 * (6 - 100), 14, 13, 10);
    askDue(x, 5, 1, 5 + 1, 21, 20);
    askDue(x, 1, 1, 2 * (1 + 1), 24, 21, 20);
    askDue(x, 2, 1, 2 + 1 - 1000, 22, 21, 20);
    askDue(x, 3, 1, 3 - (2 - 100), 23, 20, 13, 10);
    askDue(x, 4, 1, 4 - 2 * (6 - 100), 23, 20, 14, 13, 10);
    Due.all("ask wrong", BAD, x.ask(7, 0), x.ask(-1, 0), x.ask(0, 2), x.ask(0, -1));
    x.heels(0);
    askDue(x, 5, 1, 5, 21, 20);
  }

  private static void trace() {
    FeetRoads x = Due.landOf(TOWN);
    Due.is("trace ahead of an ask", x.trace(0), NONE);
    x.ask(4, 1);
    x.ask(3, 0);
    Due.is("trace of the latest ask", x.trace(0) * 100 + x.trace(1), 1310);
    Due.all("no trace", NONE, x.trace(2), x.trace(-1), x.trace(16), x.trace(Integer.MAX_VALUE));
    x.ask(9, 0);
    Due.is("trace stays when refused", x.trace(0), 13);
  }

  private static void count() {
    FeetRoads x = Due.landOf(TOWN);
    x.row(3, 0, 1);
    x.row(3, 1, 2);
    x.row(0, 0, 0);
    x.day();
    x.walk(0, 4);
    Due.fed(x, "abc");
    int[] counts = {2, 7, 3, 6, 3, 1, 6, 2, 3};
    for (int what = 0; what < 9; what++) {
      Due.is("count " + what, x.count(what), counts[what]);
    }
    Due.all("count wrong", BAD, x.count(9), x.count(-1));
  }

  private static void status() {
    FeetRoads x = Due.landOf(TOWN);
    x.row(0, 0, -1);
    Due.is("status SIZE", x.status(), 4);
    x.row(9, 0, 0);
    x.set(9, 0, 0);
    x.copy(9, 0, 0, 0, 0);
    x.drop(9);
    x.whose(9, 0, 0, 0);
    x.as(9, 0);
    new FeetRoads().whose(0, 0, 0, 0);
    x.walk(0, 0);
    x.count(0);
    Due.is("status stays", x.status(), 4);
    x.row(0, 0, 2);
    Due.is("status of a row", x.status(), 0);
    x.set(0, 2, 0);
    Due.is("status PLACE", x.status(), 2);
    x.set(0, 1, 9);
    Due.is("status of a set", x.status(), 0);
    x.copy(0, 0, 1, 0, 0);
    Due.is("status NULL", x.status(), 1);
    x.whose(0, 0, 2, 0);
    Due.is("status stays when an item is bad", x.status(), 1);
    x.whose(0, 0, 1, 0);
    Due.is("status of a whose", x.status(), 0);
    x.whose(0, 0, 3, 0);
    Due.is("status of a whose PLACE", x.status(), 2);
    x.as(0, 1);
    Due.is("status of an as", x.status(), 0);
    x.as(0, 4);
    Due.is("status KIND", x.status(), 3);
    x.copy(0, 0, 0, 0, 2);
    Due.is("status of a copy", x.status(), 0);
    x.row(1, 1, 2);
    x.copy(0, 0, 1, 0, 2);
    Due.is("status STORE", x.status(), 5);
    x.drop(0);
    Due.is("status of a drop", x.status(), 0);
    x.drop(0);
    Due.is("status of a drop NULL", x.status(), 1);
  }
}
