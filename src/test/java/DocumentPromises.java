import java.util.List;
import java.util.function.ToLongFunction;

/** The document's promises 1 to 36 and its last section, sentence by sentence. */
final class DocumentPromises {
  private static final int NONE = Due.NONE, BAD = Due.BAD, STATE = Due.STATE, FULL = Due.FULL;

  private DocumentPromises() {
  }

  static void check() {
    newObject();
    row();
    set();
    copy();
    drop();
    feed();
    land();
    fault();
    walk();
    lead();
    change();
    heels();
    day();
    undo();
    person();
    road();
    met();
    reach();
    way();
    led();
    introduced();
    forgets();
    nobody();
    round();
    bars();
    meet();
    whose();
    snow();
    image();
    restore();
    kind();
    as();
    ask();
    trace();
    count();
    status();
    notPromised();
  }

  private static void newObject() {
    Document.says("## Promise 1: A new object `FeetRoads()`: No LAND.");
    FeetRoads x = new FeetRoads();
    for (int what = 0; what <= 8; what++) {
      Due.is("new: count " + what, x.count(what), 0);
    }
    Due.all("new: no LAND", STATE, x.day(), x.forgets(), x.nobody(0), x.image(0), x.undo());
  }

  private static void row() {
    Document.says("## Promise 2: row `int row(int row, int lane, int n)`:");
    Document.says("A ROW of a LANE with n ITEMS, in place of what is there: n.");
    FeetRoads x = new FeetRoads();
    Due.is("a ROW", x.row(3, 2, 5), 5);
    x.set(3, 4, 9);
    Due.is("in place", x.row(3, 0, 6), 6);
    Due.is("its LANE, its ITEMS", x.set(3, 5, 300), 44);
    Document.says("BAD: ROW, LANE, n above 40; SIZE.");
    Due.all("BAD", BAD, x.row(8, 0, 1), x.row(-1, 0, 1), x.row(0, 3, 1), x.row(0, -1, 1), x.row(0, 0, 41));
    Due.is("SIZE", x.row(3, 0, -1), Due.SIZE);
    Due.is("what is there stays", x.drop(3), 6);
  }

  private static void set() {
    Document.says("## Promise 3: set `int set(int row, int i, int v)`:");
    Document.says("ITEM i becomes v, its lowest bits, as many as the LANE has: what it is then.");
    FeetRoads x = new FeetRoads();
    x.row(0, 0, 2);
    x.row(1, 1, 2);
    x.row(2, 2, 2);
    int v = 0x12348765;
    Due.is("a byte", x.set(0, 1, v), 0x65);
    Due.is("a short", x.set(1, 1, v), 0x8765 - 0x10000);
    Due.is("an int", x.set(2, 1, v), v);
    Document.says("BAD: ROW; NULL; PLACE.");
    Due.all("BAD", BAD, x.set(8, 0, 0), x.set(-1, 0, 0));
    Due.is("NULL", x.set(3, 0, 0), Due.NULL);
    Due.all("PLACE", Due.PLACE, x.set(0, 2, 0), x.set(0, -1, 0));
  }

  private static void copy() {
    Document.says("## Promise 4: copy `int copy(int a, int i, int b, int j, int n)`:");
    Document.says("n ITEMS of a from i on come to b from j on, as they were ahead: n.");
    FeetRoads x = Document.millWithRow(0, 1, 2, 3, 4);
    Due.is("within one ROW", x.copy(0, 0, 0, 1, 4), 4);
    Due.is("0, 1, 2, 3 behind the first one", x.whose(0, 1, 4, 0), 1);
    x.row(5, 0, 3);
    Due.is("to another ROW", x.copy(0, 3, 5, 1, 2), 2);
    Due.is("2, 3 there", x.whose(5, 1, 2, 2), 1);
    Document.says("BAD: ROWS; NULL; STORE; PLACE (i, j, n below 0, or beyond an end).");
    x.row(1, 1, 5);
    Due.all("BAD", BAD, x.copy(8, 0, 0, 0, 0), x.copy(0, 0, 8, 0, 0), x.copy(-1, 0, 6, 0, 0));
    Due.all("NULL", Due.NULL, x.copy(6, 0, 0, 0, 0), x.copy(0, 0, 6, 0, 0), x.copy(6, -1, 1, 0, 9));
    Due.all("STORE", Due.STORE, x.copy(0, 0, 1, 0, 1), x.copy(1, 0, 0, 0, 1), x.copy(0, -1, 1, 0, 9));
    Due.all("PLACE", Due.PLACE, x.copy(0, -1, 5, 0, 1), x.copy(0, 0, 5, -1, 1), x.copy(0, 0, 5, 0, -1),
        x.copy(0, 5, 5, 0, 1), x.copy(0, 0, 5, 3, 1), x.copy(0, 0, 5, 0, 4), x.copy(5, 0, 0, 3, 3));
  }

  private static void drop() {
    Document.says("## Promise 5: drop `int drop(int row)`: A ROW is missing from now on: how many ITEMS it had.");
    FeetRoads x = new FeetRoads();
    x.row(7, 1, 23);
    Due.is("how many", x.drop(7), 23);
    Due.is("missing", x.set(7, 0, 0), Due.NULL);
    Document.says("BAD; NULL.");
    Due.all("BAD", BAD, x.drop(8), x.drop(-1));
    Due.is("NULL", x.drop(7), Due.NULL);
  }

  private static void feed() {
    Document.says("## Promise 6: feed");
    Document.says("`int feed(int letter)`: A byte (0 to 255) comes behind the tape: how many it has.");
    FeetRoads x = new FeetRoads();
    Due.is("0", x.feed(0), 1);
    Due.is("255", x.feed(255), 2);
    Document.says("BAD; FULL.");
    Due.all("BAD", BAD, x.feed(-1), x.feed(256));
    Due.fed(x, Due.times("x", 118));
    Due.is("FULL", x.feed('x'), FULL);
    Due.is("BAD ahead of FULL", x.feed(256), BAD);
  }

  private static void land() {
    Document.says("## Promise 7: land `int land()`: The tape, empty then, is read: how many PEOPLE there are.");
    FeetRoads x = Due.fed(new FeetRoads(), Document.MILL);
    Due.is("PEOPLE", x.land(), 3);
    Due.is("empty then", x.count(8), 0);
    Document.says("-1000100 less the place of a FAULT: all stays.");
    x.day();
    Due.fed(x, "f9,8;p0,0;y");
    Due.is("the place", x.land(), -1000100 - 10);
    Due.is("all stays", x.count(1) * 1000 + x.count(2) * 100 + x.count(5) * 10 + x.count(7), 6311);
    Due.is("the tape is empty", x.count(8), 0);
  }

  private static void fault() {
    Document.says("## Promise 8: fault `int fault()`: The number of the latest FAULT; 0 before one.");
    FeetRoads x = Document.mill();
    Due.is("before one", x.fault(), 0);
    Due.fed(x, "f0").land();
    Due.is("the latest", x.fault(), 2);
    Due.fed(x, "f1,2;").land();
    Due.is("the latest still", x.fault(), 2);
    x.land();
    Due.is("a later one", x.fault(), 1);
  }

  private static void walk() {
    Document.says("## Promise 9: walk `int walk(int person, int road)`: One WALKS over a ROAD: the PLACE.");
    FeetRoads x = Document.mill();
    Due.is("the PLACE", x.walk(0, 3), 3);
    Due.is("is there", x.person(0, 0), 3);
    Document.says("BAD; STATE: it is at no end of it, it does not OPEN.");
    Due.all("BAD", BAD, x.walk(3, 0), x.walk(-1, 0), x.walk(0, 6), x.walk(0, -1));
    Due.is("at no end", x.walk(0, 0), STATE);
    Due.is("does not OPEN", x.walk(2, 2), STATE);
  }

  private static void lead() {
    Document.says("## Promise 10: lead `int lead(int person, int other, int road)`:");
    Document.says("One LEADS another one over a ROAD: the PLACE.");
    FeetRoads x = Document.mill();
    x.walk(0, 3);
    Due.is("the PLACE", x.lead(0, 2, 2), 2);
    Due.is("both are there", x.person(0, 0) * 10 + x.person(2, 0), 22);
    Document.says("BAD: alike, too;");
    Due.all("BAD", BAD, x.lead(0, 0, 2), x.lead(3, 0, 2), x.lead(0, 3, 2), x.lead(0, 2, 6), x.lead(0, 2, -1));
    Document.says("STATE: they are not both at one end, it does not OPEN to the first.");
    Due.all("not both", STATE, x.lead(0, 1, 1), x.lead(1, 0, 1), x.lead(0, 2, 4));
    x.heels(2);
    Due.is("does not OPEN to the first", x.lead(2, 0, 2), STATE);
  }

  private static void change() {
    Document.says("## Promise 11: change `int change(int person, int other)`:");
    Document.says("Two CHANGE SOLES: the SOLE of the first then.");
    FeetRoads x = Document.mill();
    Due.is("of the first", x.change(2, 0), 0);
    Due.is("of the other", x.person(0, 1), 2);
    Document.says("BAD: alike, too.");
    Due.all("BAD", BAD, x.change(1, 1), x.change(0, 3), x.change(-1, 0));
  }

  private static void heels() {
    Document.says("## Promise 12: heels");
    Document.says("`int heels(int person)`: One has NEW HEELS: how many ROADS had met its SOLE. BAD.");
    FeetRoads x = Document.mill();
    x.walk(0, 3);
    Due.is("three and the highway", x.heels(0), 4);
    Due.is("none then", x.heels(0), 0);
    Due.all("BAD", BAD, x.heels(3), x.heels(-1));
  }

  private static void day() {
    Document.says("## Promise 13: day `int day()`: A DAY goes by: the DAY.");
    FeetRoads x = Document.mill();
    Due.is("the DAY", x.day() * 10 + x.day(), 12);
    Document.says("STATE: no LAND; FULL: it is DAY 999.");
    Due.is("no LAND", new FeetRoads().day(), STATE);
    Due.days(x, 997);
    Due.is("DAY 999", x.count(5), 999);
    Due.is("FULL", x.day(), FULL);
  }

  private static void undo() {
    Document.says("## Promise 14: undo `int undo()`: The latest ACT is undone: how many can be undone yet.");
    FeetRoads x = Due.days(Document.mill(), 3);
    Due.is("two yet", x.undo(), 2);
    Due.is("the latest", x.count(5), 2);
    Document.says("STATE: none.");
    x.undo();
    x.undo();
    Due.is("none", x.undo(), STATE);
    Due.is("no LAND", new FeetRoads().undo(), STATE);
  }

  private static void person() {
    Document.says("## Promise 15: person `int person(int person, int what)`:");
    Document.says("Of one: 0 the PLACE, 1 the SOLE, 2 ROADS that OPEN to it (bits). BAD.");
    FeetRoads x = Document.mill();
    x.change(1, 2);
    Due.is("the PLACE", x.person(1, 0), 1);
    Due.is("the SOLE", x.person(1, 1), 2);
    Due.is("ROADS", x.person(1, 2), 8 + 16);
    Due.all("BAD", BAD, x.person(3, 0), x.person(-1, 0), x.person(0, 3), x.person(0, -1));
  }

  private static void road() {
    Document.says("## Promise 16: road `int road(int road, int what)`:");
    Document.says("Of a ROAD: 0 one end, 1 the other one (as told), 2 LONG, 3 SOLES to which it OPENS (bits). BAD.");
    FeetRoads x = Due.landOf("f1,8;l6,2,7;h2,6,3;p0,1;p0,0;p0,1;");
    Due.is("as told", x.road(0, 0) * 10 + x.road(0, 1), 62);
    Due.is("as told, the other way", x.road(1, 0) * 10 + x.road(1, 1), 26);
    Due.is("LONG", x.road(0, 2) * 10 + x.road(1, 2), 73);
    Due.is("SOLES", x.road(0, 3) * 10 + x.road(1, 3), 57);
    Due.all("BAD", BAD, x.road(2, 0), x.road(-1, 0), x.road(0, 4), x.road(0, -1));
  }

  private static void met() {
    Document.says("## Promise 17: met `int met(int road, int sole, int what)`:");
    Document.says("Of a ROAD, a SOLE: 0 how often it was MET, 1 on which DAY last (NONE: never). BAD.");
    FeetRoads x = Due.days(Document.mill(), 1);
    x.walk(0, 0);
    Due.is("how often", x.met(0, 0, 0), 3);
    Due.is("on which DAY", x.met(0, 0, 1), 1);
    Due.is("never", x.met(0, 2, 0), 0);
    Due.is("never: NONE", x.met(0, 2, 1), NONE);
    Due.all("BAD", BAD, x.met(6, 0, 0), x.met(-1, 0, 0), x.met(0, 3, 0), x.met(0, -1, 0), x.met(0, 0, 2),
        x.met(0, 0, -1));
  }

  private static void reach() {
    Document.says("## Promise 18: reach `int reach(int person)`: REACH. BAD.");
    FeetRoads x = Document.mill();
    Due.is("REACH", x.reach(1), 31);
    Due.all("BAD", BAD, x.reach(3), x.reach(-1), new FeetRoads().reach(0));
  }

  private static void way() {
    Document.says("## Promise 19: way `int way(int person, int place)`: WAY; NONE. BAD.");
    FeetRoads x = Document.mill();
    Due.is("WAY", x.way(0, 2), 5);
    Due.is("NONE", x.way(2, 2), NONE);
    Due.all("BAD", BAD, x.way(3, 0), x.way(-1, 0), x.way(0, 5), x.way(0, -1));
  }

  private static void led() {
    Document.says("## Promise 20: led `int led(int person, int other, int place)`: LED; NONE. BAD: alike, too.");
    FeetRoads x = Document.mill();
    Due.is("LED", x.led(2, 1, 2), 9 + 6);
    x.heels(1);
    Due.is("NONE", x.led(2, 1, 2), NONE);
    Due.all("BAD", BAD, x.led(0, 0, 0), x.led(3, 0, 0), x.led(0, 3, 0), x.led(0, 1, 5), x.led(0, 1, -1));
  }

  private static void introduced() {
    Document.says("## Promise 21: introduced `int introduced(int person, int place, int what)`:");
    Document.says("INTRODUCED: how many (what = 0), LONG (1); NONE. BAD.");
    FeetRoads x = Document.mill();
    Due.is("how many, LONG", x.introduced(1, 3, 0) * 100 + x.introduced(1, 3, 1), 11);
    Due.is("how many, LONG, a closed one", x.introduced(2, 2, 0) * 100 + x.introduced(2, 2, 1), 104);
    Due.is("NONE", Due.landOf("f1,2;p0,0;").introduced(0, 1, 0), NONE);
    Due.all("BAD", BAD, x.introduced(3, 0, 0), x.introduced(0, 5, 0), x.introduced(0, 0, 2), x.introduced(0, 0, -1));
  }

  private static void forgets() {
    Document.says("## Promise 22: forgets `int forgets()`: FORGETS; NONE. STATE: no LAND.");
    FeetRoads x = Document.mill();
    Due.is("FORGETS", x.forgets(), 3);
    Due.days(x, 5);
    Due.is("NONE", x.forgets(), NONE);
    Due.is("STATE", new FeetRoads().forgets(), STATE);
  }

  private static void nobody() {
    Document.says("## Promise 23: nobody `int nobody(int d)`: NOBODY. BAD; STATE: no LAND (ahead of BAD).");
    FeetRoads x = Document.mill();
    Due.is("NOBODY", x.nobody(4), 35);
    Due.all("BAD", BAD, x.nobody(-1), x.nobody(100));
    Due.all("STATE", STATE, new FeetRoads().nobody(0), new FeetRoads().nobody(-1), new FeetRoads().nobody(100));
  }

  private static void round() {
    Document.says("## Promise 24: round `int round(int person)`: ROUND; NONE. BAD.");
    FeetRoads x = Document.mill();
    Due.is("ROUND", x.round(1), 16);
    Due.is("NONE", Due.landOf("f1,4;l0,1,1;l2,3,1;p0,3;").round(0), NONE);
    Due.all("BAD", BAD, x.round(3), x.round(-1));
  }

  private static void bars() {
    Document.says("## Promise 25: bars `int bars(int person, int place, int what)`:");
    Document.says("BARS: how many (what = 0), which (1); NONE. BAD.");
    FeetRoads x = Document.mill();
    Due.is("how many, which", x.bars(0, 2, 0) * 100 + x.bars(0, 2, 1), 200 + 1 + 4);
    Due.all("NONE", NONE, x.bars(0, 0, 0), x.bars(0, 0, 1));
    Due.all("BAD", BAD, x.bars(3, 0, 0), x.bars(0, 5, 0), x.bars(0, 0, 2), x.bars(0, 1, -1));
  }

  private static void meet() {
    Document.says("## Promise 26: meet `int meet(int person, int other, int what)`:");
    Document.says("MEET: the PLACE (what = 0), LONG (1); NONE. BAD: alike, too.");
    FeetRoads x = Document.mill();
    x.walk(0, 3);
    Due.is("at one PLACE", x.meet(0, 2, 0) * 100 + x.meet(0, 2, 1), 300);
    FeetRoads y = Due.landOf("f1,2;p0,0;p1,0;");
    Due.all("NONE", NONE, y.meet(0, 1, 0), y.meet(0, 1, 1));
    Due.all("BAD", BAD, x.meet(0, 0, 0), x.meet(3, 0, 0), x.meet(0, 3, 0), x.meet(0, 1, 2), x.meet(0, 1, -1));
  }

  private static void whose() {
    Document.says("## Promise 27: whose `int whose(int row, int i, int n, int place)`:");
    Document.says("WHOSE by n ROADS (0 to 16) of a ROW from i on, from a PLACE.");
    FeetRoads x = Document.millWithRow(9, 0, 0, 5, 2);
    Due.is("from i on", x.whose(0, 1, 3, 0), 2);
    Due.is("by none", x.whose(0, 5, 0, 4), 7);
    Document.says("BAD: ROW, n, PLACE;");
    Due.all("BAD", BAD, x.whose(8, 0, 0, 0), x.whose(-1, 0, 0, 0), x.whose(0, 0, -1, 0), x.whose(0, 0, 17, 0),
        x.whose(0, 0, 0, 5), x.whose(0, 0, 0, -1));
    Document.says("STATE: no LAND (ahead of BAD);");
    Due.all("STATE", STATE, new FeetRoads().whose(0, 0, 0, 0), new FeetRoads().whose(8, 0, 17, 9));
    Document.says("NULL; PLACE;");
    Due.is("NULL", x.whose(1, 9, 1, 0), Due.NULL);
    Due.all("PLACE", Due.PLACE, x.whose(0, -1, 1, 0), x.whose(0, 5, 1, 0), x.whose(0, 0, 6, 0));
    Document.says("then BAD: an ITEM that is none of the ROADS, does not begin there.");
    Due.all("none of the ROADS", BAD, x.whose(0, 0, 1, 0));
    Due.all("does not begin there", BAD, x.whose(0, 1, 1, 2), x.whose(0, 3, 2, 2));
  }

  private static void snow() {
    Document.says("## Promise 28: snow `long snow(int person, int place, int c, int what)`:");
    Document.says("SNOW (c 0 to 10): above (what = 0), below (1). BAD.");
    FeetRoads x = Document.mill();
    Due.is("above, below", x.snow(2, 0, 2, 0) * 10 + x.snow(2, 0, 2, 1), 45);
    Due.is("c 0", x.snow(0, 4, 0, 0) * 10 + x.snow(0, 4, 0, 1), 11);
    Due.is("c 10", x.snow(0, 4, 10, 0) * 10 + x.snow(0, 4, 10, 1), 1);
    Due.all("BAD", BAD, x.snow(3, 0, 0, 0), x.snow(0, 5, 0, 0), x.snow(0, 0, -1, 0), x.snow(0, 0, 11, 0),
        x.snow(0, 0, 0, 2), x.snow(0, 0, 0, -1));
  }

  private static void image() {
    Document.says("## Promise 29: image `int image(int k)`: An IMAGE (0, 1) is kept of the LAND: 1.");
    FeetRoads x = Document.mill();
    Due.is("IMAGES", x.image(0) + x.image(1), 2);
    Document.says("BAD; STATE: no LAND.");
    Due.all("BAD", BAD, x.image(2), x.image(-1), new FeetRoads().image(2));
    Due.all("STATE", STATE, new FeetRoads().image(0), new FeetRoads().image(1));
  }

  private static void restore() {
    Document.says("## Promise 30: restore");
    Document.says("`int restore(int k)`: The LAND is as an IMAGE kept it (no ACT can be undone then): 1.");
    FeetRoads x = Document.mill();
    x.walk(2, 4);
    x.image(1);
    x.day();
    x.walk(2, 4);
    x.change(0, 2);
    Due.is("restored", x.restore(1), 1);
    Due.is("the LAND", x.count(5) * 1000 + x.count(6) * 100 + x.person(2, 0) * 10 + x.person(2, 1), 542);
    Due.is("no ACT", x.undo(), STATE);
    Document.says("BAD; STATE: none was kept.");
    Due.all("BAD", BAD, x.restore(2), x.restore(-1));
    Due.is("none was kept", x.restore(0), STATE);
  }

  private static void kind() {
    Document.says("## Promise 31: kind `int kind(int road)`: The KIND of a ROAD, as told (1 to 5). BAD.");
    FeetRoads x = Due.landOf("f1,2;r0,1,1;h0,1,1;o0,1,1;n0,1,1;l0,1,1;");
    for (int road = 0; road <= 4; road++) {
      Due.is("KIND of " + road, x.kind(road), 5 - road);
    }
    Due.all("BAD", BAD, x.kind(5), x.kind(-1));
  }

  private static void as() {
    Document.says("## Promise 32: as `int as(int road, int kind)`:");
    Document.says("A ROAD is taken as one of a KIND (0 .. 5): its number. BAD; KIND: it is no such one.");
    FeetRoads x = Document.mill();
    Due.is("a river as a highway", x.as(4, 4), 4);
    Due.is("a highway as a river", x.as(3, 5), Due.KIND);
    Due.all("BAD", BAD, x.as(6, 0), x.as(-1, 0), x.as(0, 6), x.as(0, -1));
  }

  private static void ask() {
    Document.says("## Promise 33: ask `int ask(int road, int what)`: An ASK (0, 1) of a ROAD. BAD.");
    FeetRoads x = Document.mill();
    Due.is("SIZE, MARK", x.ask(5, 0) * 100 + x.ask(5, 1), 1206);
    Due.all("BAD", BAD, x.ask(6, 0), x.ask(-1, 0), x.ask(0, 2), x.ask(0, -1));
    Document.says("THE TRACE is empty ahead of it.");
    x.ask(1, 0);
    x.ask(3, 0);
    Due.is("of the latest alone", x.trace(0) * 100 + x.trace(1), 1310);
    Due.is("no more", x.trace(2), NONE);
  }

  private static void trace() {
    Document.says("## Promise 34: trace `int trace(int i)`: Number i of THE TRACE; NONE.");
    FeetRoads x = Document.mill();
    x.ask(4, 1);
    int[] due = {23, 20, 14, 13, 10};
    for (int i = 0; i < due.length; i++) {
      Due.is("number " + i, x.trace(i), due[i]);
    }
    Due.all("NONE", NONE, x.trace(5), x.trace(16), x.trace(-1));
  }

  private static void count() {
    Document.says("## Promise 35: count `int count(int what)`: How many: 0 ROWS, 1 ROADS, 2 PEOPLE, 3 PLACES, 4 FADE,");
    Document.says("5 the DAY, 6 what was SPENT, 7 ACTS that can be undone, 8 bytes on the tape. BAD.");
    FeetRoads x = Due.days(Document.millWithRow(1, 2, 3), 7);
    x.walk(2, 4);
    Due.fed(x, "f1,");
    int[] due = {1, 6, 3, 5, 2, 7, 5, 8, 3};
    for (int what = 0; what < due.length; what++) {
      Due.is("count " + what, x.count(what), due[what]);
    }
    Due.all("BAD", BAD, x.count(9), x.count(-1));
  }

  private static void status() {
    Document.says("## Promise 36: status");
    Document.says("`int status()`: Of the latest call with a ROW, or as(), that was not BAD, STATE, FULL:");
    FeetRoads x = Document.millWithRow(0, 9);
    x.drop(7);
    x.drop(8);
    x.whose(0, 1, 1, 0);
    x.walk(2, 0);
    Due.is("a BAD one, another call: of the one before", x.status(), 1);
    Document.says("the number of its FINDING;");
    x.as(0, 2);
    Due.is("of as()", x.status(), 3);
    x.whose(0, 0, 3, 0);
    Due.is("of whose()", x.status(), 2);
    Document.says("0: it had none, or there was none.");
    x.whose(0, 0, 1, 0);
    Due.is("it had none", x.status(), 0);
    List<ToLongFunction<FeetRoads>> well = List.of(y -> y.row(2, 0, 1), y -> y.set(0, 0, 1), y -> y.copy(0, 0, 0, 0, 1),
        y -> y.drop(2), y -> y.as(0, 1));
    for (int k = 0; k < well.size(); k++) {
      x.drop(7);
      well.get(k).applyAsLong(x);
      Due.is("call " + k + " with a ROW, or as(), had none", x.status(), 0);
    }
    Due.is("there was none", new FeetRoads().status(), 0);
  }

  private static void notPromised() {
    Document.says("## Not promised How the state is held inside the object is free, as are the speed of each call,");
    Document.says("the text of toString and the behaviour of equals and hashCode.");
    Document.says("Use of one object from several threads at once is not promised to be safe.");
    Document.says("Nothing is promised beyond the answers and state changes described above,");
    Document.says("and nothing about an object after its 512th call.");
  }
}
