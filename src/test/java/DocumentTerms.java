/** The document's section Terms, parts 1 to 4, sentence by sentence. */
final class DocumentTerms {
  private static final int NONE = Due.NONE, BAD = Due.BAD, STATE = Due.STATE, FULL = Due.FULL;
  private static final String LAW = "f1,2;", ROAD = "l0,1,1;", PERSON = "p0,0;";

  private DocumentTerms() {
  }

  static void check() {
    rows();
    tape();
    tokens();
    law();
    roads();
    people();
    newLand();
    faultOne();
    faultTwoAndThree();
    lanesOpen();
    othersOpen();
    meetings();
    actsKept();
    acts();
    reachAndWay();
    ledAndIntroduced();
    forgets();
    nobodyAndRound();
    barsAndMeet();
    whoseAndSnow();
    kinds();
    asksOfSize();
    asksOfMark();
    asksAnew();
    headings();
  }

  private static void refused(String text, int place, int number) {
    FeetRoads x = Due.fed(new FeetRoads(), text);
    Due.is("land of " + text, x.land(), -1000100 - place);
    Due.is("fault of " + text, x.fault(), number);
  }

  private static void read(String text, int people) {
    Due.is("land of " + text, Due.fed(new FeetRoads(), text).land(), people);
  }

  private static void rows() {
    Document.says("======== 1 ROWS 0 .. 7 are missing (at first),");
    FeetRoads x = new FeetRoads();
    for (int row = 0; row <= 7; row++) {
      Due.is("row " + row + " is missing", x.drop(row), Due.NULL);
    }
    Due.all("there is no other row", BAD, x.drop(8), x.drop(-1));
    Document.says("or have a LANE (0 bytes, 1 shorts, 2 ints)");
    for (int lane = 0; lane <= 2; lane++) {
      x.row(lane, lane, 40);
    }
    Due.is("bytes", x.set(0, 0, 70000), 112);
    Due.is("shorts", x.set(1, 0, 70000), 4464);
    Due.is("ints", x.set(2, 0, 70000), 70000);
    Document.says("and 0 to 40 ITEMS,");
    Due.is("40 items", x.set(0, 39, 1) * 100 + x.drop(0), 140);
    Due.is("0 items", x.row(0, 0, 0) + x.drop(0), 0);
    Document.says("0 at first.");
    x = Document.mill();
    x.row(0, 2, 40);
    Due.is("items tell road 0", x.whose(0, 0, 16, 0) * 100 + x.whose(0, 24, 16, 1), 303);
  }

  private static void tape() {
    Document.says("```text TEXTS: THE TAPE has at most 120 bytes,");
    FeetRoads x = Due.fed(new FeetRoads(), Due.times("x", 119));
    Due.is("byte 120", x.feed('x'), 120);
    Due.is("byte 121", x.feed('x'), FULL);
    Document.says("that come one by one;");
    x = new FeetRoads();
    for (int k = 0; k < Document.MILL.length(); k++) {
      Due.is("byte " + k, x.feed(Document.MILL.charAt(k)), k + 1);
    }
    Due.is("they are read in their order", x.land(), 3);
  }

  private static void tokens() {
    Document.says("TOKENS: letters a to z (each by itself),");
    refused("ff1,2;", 1, 1);
    refused(LAW + "lh0,1,1;", 6, 1);
    refused("F1,2;", 0, 1);
    Document.says("NUMBERS (figures, 3 at most),");
    read("f030,008;", 0);
    refused("f0030,8;", 1, 1);
    Document.says("SIGNS , and ;");
    refused("f1;2;", 2, 1);
    refused("f1,2,", 4, 1);
    Document.says("nothing else, no blanks.");
    refused("f1, 2;", 3, 1);
    refused(LAW + " ", 5, 1);
    refused(LAW + "\n", 5, 1);
    refused(" " + LAW, 0, 1);
    Document.says("land: law { road } { person }.");
    read(LAW, 0);
    read(LAW + ROAD + ROAD, 0);
    read(LAW + PERSON + PERSON, 2);
    read(LAW + ROAD + PERSON, 1);
    refused(ROAD, 0, 1);
    refused(LAW + LAW, 5, 1);
    refused(LAW + PERSON + ROAD, 10, 1);
  }

  private static void law() {
    Document.says("law: f FADE , PLACES ; (1 to 30; 2 to 8).");
    for (int fade = 1; fade <= 30; fade++) {
      Due.is("FADE " + fade, Due.landOf("f" + fade + ",2;").count(4), fade);
    }
    for (int places = 2; places <= 8; places++) {
      Due.is("PLACES " + places, Due.landOf("f1," + places + ";").count(3), places);
    }
    refused("f0,2;", 1, 2);
    refused("f31,2;", 1, 2);
    refused("f1,1;", 3, 2);
    refused("f1,9;", 3, 2);
  }

  private static void roads() {
    Document.says("road: SORT A , B , LONG ;");
    FeetRoads x = Due.landOf("f1,8;o3,5,7;");
    Due.is("A, B, LONG", x.road(0, 0) * 100 + x.road(0, 1) * 10 + x.road(0, 2), 357);
    Document.says("(SORT: l a lane, n a narrow one, o an old one, h a highway, r a river;");
    x = Due.landOf("f1,2;l0,1,1;n0,1,1;o0,1,1;h0,1,1;r0,1,1;");
    for (int road = 0; road <= 4; road++) {
      Due.is("sort " + road, x.kind(road), road + 1);
    }
    refused(LAW + "k0,1,1;", 5, 1);
    Document.says("unlike PLACES, from 0 on;");
    read("f1,8;l0,7,1;l7,0,1;", 0);
    refused("f1,8;l4,4,1;", 8, 2);
    refused("f1,8;l8,4,1;", 6, 2);
    Document.says("1 to 9;");
    read(LAW + "l0,1,9;", 0);
    refused(LAW + "l0,1,0;", 10, 2);
    refused(LAW + "l0,1,10;", 10, 2);
    Document.says("ROADS 0 .. 8, 9 at most).");
    x = Due.landOf(LAW + Due.times(ROAD, 9));
    Due.is("road 8", x.road(8, 2), 1);
    Due.is("no road 9", x.road(9, 2), BAD);
  }

  private static void people() {
    Document.says("person: p PLACE , KNOWN ;");
    FeetRoads x = Due.landOf("f1,8;l0,1,1;l1,2,1;p6,2;");
    Due.is("PLACE, KNOWN", x.person(0, 0) * 10 + x.person(0, 2), 62);
    Document.says("(ROADS told, as bits;");
    refused("f1,8;l0,1,1;l1,2,1;p6,4;", 22, 2);
    read("f1,8;l0,1,1;l1,2,1;p6,3;", 1);
    read("f1,8;r0,1,1;p6,1;", 1);
    Document.says("PEOPLE 0 .. 3, 4 at most).");
    x = Due.landOf(LAW + Due.times(PERSON, 4));
    Due.is("one 3", x.person(3, 1), 3);
    Due.is("no one 4", x.person(4, 1), BAD);
  }

  private static void newLand() {
    Document.says("A LAND that is read stands in place of the one before (none at first):");
    FeetRoads x = new FeetRoads();
    Due.is("none at first", x.forgets(), STATE);
    Due.fed(x, "f9,8;h0,7,1;p0,0;p7,0;").land();
    x.walk(0, 0);
    x.day();
    Due.fed(x, Document.MILL).land();
    Due.is("in place", x.count(1) * 1000 + x.count(2) * 100 + x.count(3) * 10 + x.count(4), 6352);
    Document.says("DAY 0,");
    Due.is("DAY 0", x.count(5), 0);
    Document.says("person k has SOLE k,");
    Due.is("SOLES", x.person(0, 1) * 100 + x.person(1, 1) * 10 + x.person(2, 1), 12);
    Document.says("which the ROADS of KNOWN (but rivers) have met twice,");
    Due.is("met twice", x.met(0, 0, 0) * 1000 + x.met(2, 0, 0) * 100 + x.met(0, 1, 0) * 10 + x.met(5, 1, 0), 2222);
    Due.is("others not", x.met(3, 0, 0) + x.met(1, 1, 0) + x.met(0, 2, 0), 0);
    Due.is("but rivers", x.met(4, 2, 0), 0);
    Document.says("on DAY 0 last;");
    Due.is("on DAY 0", x.met(0, 0, 1) + x.met(5, 1, 1), 0);
    Document.says("nothing was SPENT;");
    Due.is("SPENT", x.count(6), 0);
    Document.says("no ACT can be undone.");
    Due.is("undo", x.undo(), STATE);
  }

  private static void faultOne() {
    Document.says("FAULTS, the first TOKEN that has one (its first byte),");
    refused("f1,2;l0,0,x", 8, 2);
    refused("f040,9;", 1, 2);
    Document.says("of one TOKEN the least:");
    refused(LAW + Due.times(PERSON, 4) + "l", 25, 1);
    refused(LAW + Due.times(ROAD, 9) + PERSON + "h", 73, 1);
    refused(LAW + "99", 5, 1);
    Document.says("1 it cannot stand there,");
    refused("f,2;", 1, 1);
    refused(LAW + "p,", 6, 1);
    refused(LAW + "x", 5, 1);
    Document.says("or is none");
    refused("f1,2:", 4, 1);
    refused("f1,2" + (char) 255, 4, 1);
    Document.says("(the end: how many bytes there are);");
    refused("", 0, 1);
    refused("f1,2", 4, 1);
    refused("f1,2;l0,1,1", 11, 1);
    refused("f1,2;p0,", 8, 1);
  }

  private static void faultTwoAndThree() {
    Document.says("2 a NUMBER that is not as told;");
    refused("f99,2;", 1, 2);
    refused(LAW + "n1,1,1;", 8, 2);
    refused(LAW + "p2,0;", 6, 2);
    refused(LAW + "p0,1;", 8, 2);
    Document.says("3 a road, a person more than there is room for (its letter).");
    refused(LAW + Due.times(ROAD, 9) + "r0,1,1;", 68, 3);
    refused(LAW + Due.times(ROAD, 9) + "r", 68, 3);
    refused(LAW + Due.times(PERSON, 4) + "p0,0;", 25, 3);
    Document.says("```");
  }

  private static FeetRoads after(char sort, int days) {
    return Due.days(Due.landOf("f4,2;" + sort + "0,1,5;p0,1;p0,0;"), days);
  }

  private static void lanesOpen() {
    Document.says("======== 2 A ROAD OPENS to a SOLE:");
    Due.is("to a SOLE, whoever has it", after('l', 0).road(0, 3), 1);
    FeetRoads x = after('l', 0);
    x.change(0, 1);
    Due.is("whoever has it", x.walk(0, 0) == STATE && x.walk(1, 0) == 1 ? 1 : 0, 1);
    Document.says("a lane, if it has met it, FADE DAYS ago or later;");
    Due.is("a lane", after('l', 0).road(0, 3) * 100 + after('l', 4).road(0, 3) * 10 + after('l', 5).road(0, 3), 110);
    Document.says("a narrow one so, if it has met it twice at least;");
    Due.is("so", after('n', 0).road(0, 3) * 100 + after('n', 4).road(0, 3) * 10 + after('n', 5).road(0, 3), 110);
    x = after('n', 1);
    x.lead(0, 1, 0);
    Due.is("met once", x.road(0, 3), 1);
    x.lead(0, 1, 0);
    Due.is("met twice", x.road(0, 3), 3);
    Document.says("an old one if it has met it twice FADE DAYS ago or later;");
    Due.is("an old one", after('o', 0).road(0, 3) * 100 + after('o', 8).road(0, 3) * 10 + after('o', 9).road(0, 3), 110);
    x = after('o', 1);
    x.lead(0, 1, 0);
    Due.is("an old one that met it once", x.road(0, 3), 3);
  }

  private static void othersOpen() {
    Document.says("a highway, a river always.");
    for (char sort : new char[] {'h', 'r'}) {
      FeetRoads x = after(sort, 60);
      x.heels(0);
      Due.is(sort + " always", x.road(0, 3), 3);
    }
  }

  private static void meetings() {
    Document.says("A ROAD that somebody goes over has MET that SOLE once more, today;");
    for (char sort : new char[] {'l', 'n', 'o', 'h'}) {
      FeetRoads x = after(sort, 3);
      x.change(0, 1);
      x.walk(1, 0);
      Due.is(sort + " once more, today", x.met(0, 0, 0) * 10 + x.met(0, 0, 1), 33);
    }
    Document.says("a river never meets any;");
    FeetRoads x = after('r', 3);
    x.walk(0, 0);
    Due.is("never", x.met(0, 0, 0), 0);
    Due.is("never, no day", x.met(0, 0, 1), NONE);
    Document.says("it costs LONG, each time somebody goes over (SPENT).");
    Due.is("once", x.count(6), 5);
    x.walk(0, 0);
    Due.is("twice", x.count(6), 10);
    x.lead(0, 1, 0);
    Due.is("two at once", x.count(6), 20);
    x = after('h', 0);
    x.walk(0, 0);
    Due.is("a highway costs nothing", x.count(6), 0);
  }

  private static void actsKept() {
    Document.says("```text ACTS (24 at most are kept, of more the oldest is forgotten;");
    FeetRoads x = after('h', 0);
    x.walk(0, 0);
    Due.days(x, 24);
    Due.is("24 are kept", x.count(7), 24);
    for (int k = 23; k >= 0; k--) {
      Due.is("undone", x.undo(), k);
    }
    Due.is("the oldest is forgotten", x.person(0, 0) * 10 + x.count(5), 10);
    Document.says("each can be undone, the latest first):");
    x = Document.mill();
    x.walk(0, 0);
    x.lead(0, 1, 1);
    x.change(0, 1);
    x.heels(0);
    x.day();
    Due.is("a DAY undone", x.undo() * 10 + x.count(5), 40);
    Due.is("NEW HEELS undone", x.undo() * 10 + x.met(5, 1, 0), 32);
    Due.is("SOLES changed back", x.undo() * 10 + x.person(0, 1), 20);
    Due.is("one led undone", x.undo() * 100 + x.person(0, 0) * 10 + x.person(1, 0), 111);
    Due.is("a walk undone", x.undo() * 10 + x.person(0, 0), 0);
  }

  private static void acts() {
    Document.says("one WALKS over a ROAD from one end of it to the other one, if it OPENS to its SOLE;");
    FeetRoads x = Document.mill();
    Due.is("there", x.walk(0, 3), 3);
    Due.is("and back", x.walk(0, 3), 0);
    Due.all("no end of it; does not OPEN", STATE, x.walk(0, 4), x.walk(0, 5), x.walk(2, 2));
    Document.says("one LEADS another one, both at one end, if it OPENS to the SOLE of the first: both go over;");
    x.walk(0, 0);
    Due.is("OPENS to the other alone", x.lead(1, 0, 1), STATE);
    Due.is("OPENS to the first", x.lead(0, 1, 1), 2);
    Due.is("both go over", x.person(0, 0) * 10 + x.person(1, 0), 22);
    Due.is("both were MET", x.met(1, 0, 0) * 10 + x.met(1, 1, 0), 31);
    Document.says("two CHANGE SOLES (wherever they are);");
    Due.is("far from one another", x.change(1, 2), 2);
    Due.is("the other's", x.person(2, 1), 1);
    Document.says("one has NEW HEELS: no ROAD has met its SOLE;");
    Due.is("three had", x.heels(2), 3);
    Due.is("none has", x.met(0, 1, 0) + x.met(1, 1, 0) + x.met(5, 1, 0), 0);
    Document.says("a DAY goes by.");
    Due.is("a DAY", x.day(), 1);
    Document.says("```");
  }

  private static void reachAndWay() {
    Document.says("======== 3 FORETOLD (nothing changes; by what OPENS now, walks being forgotten).");
    FeetRoads x = Due.landOf("f9,4;n0,1,1;l1,2,1;p0,1;p0,0;");
    x.lead(0, 1, 0);
    Due.is("a narrow one that met once stays closed, walks or not", x.reach(1), 2);
    Twins.unchanged("foretold", Twins::busy, y -> y.reach(0) + y.way(0, 1) + y.led(0, 1, 2) + y.introduced(2, 2, 0)
        + y.forgets() + y.nobody(9) + y.round(0) + y.bars(0, 4, 1) + y.meet(0, 1, 0) + y.snow(0, 4, 3, 0));
    Document.says("REACH: PLACES (bits) to which one gets by ROADS that OPEN to its SOLE (where it is, too).");
    x = Document.mill();
    Due.is("REACH", x.reach(0) * 100 + x.reach(2), 3125);
    x.heels(0);
    Due.is("REACH with new heels", x.reach(0), 1 + 8 + 16);
    Due.is("where it is, too", Due.landOf("f1,3;p2,0;").reach(0), 4);
    Document.says("WAY: LONG of the shortest one to a PLACE; NONE.");
    x = Document.mill();
    int[] ways = {2, 0, 8, 11, 16};
    for (int place = 0; place <= 4; place++) {
      Due.is("WAY to " + place, x.way(1, place), ways[place]);
    }
    Due.is("no WAY", x.way(2, 1), NONE);
  }

  private static void ledAndIntroduced() {
    Document.says("LED by another one (wherever that is):");
    FeetRoads x = Document.mill();
    Due.is("the other is far off", x.led(2, 0, 2), 4);
    Document.says("LONG of the shortest way by ROADS that OPEN to one of both SOLES; NONE.");
    Due.is("one road of each", x.led(1, 0, 3), 3 + 4);
    Due.is("shorter than alone", x.led(1, 0, 2) * 10 + x.way(1, 2), 38);
    x.heels(0);
    Due.is("NONE", x.led(2, 0, 1), NONE);
    Document.says("INTRODUCED: the fewest ROADS that do not OPEN to its SOLE on a way to a PLACE;");
    x = Document.mill();
    Due.is("one", x.introduced(2, 1, 0), 1);
    Due.is("none", x.introduced(2, 4, 0), 0);
    Document.says("LONG of the shortest of such ways; NONE.");
    Due.is("the longer way, by fewer such roads", x.introduced(2, 1, 1), 9 + 2);
    Due.is("the shortest of two by one such road", x.introduced(2, 2, 1), 4);
    Due.all("NONE", NONE, Due.landOf("f1,3;l0,1,1;p0,0;").introduced(0, 2, 0),
        Due.landOf("f1,3;l0,1,1;p0,0;").introduced(0, 2, 1));
  }

  private static void forgets() {
    Document.says("```text FORGETS: in how many DAYS from now (1 on)");
    FeetRoads x = Due.days(Document.mill(), 2);
    Due.is("tomorrow", x.forgets(), 1);
    Document.says("the first of all ROADS that OPEN to a SOLE of somebody by what they have met does so no more,");
    x.walk(0, 0);
    Due.is("the narrow one yet, and the lane to another", x.forgets(), 1);
    x.day();
    Due.is("the lane and the old one", x.forgets(), 2);
    x.day();
    x.day();
    Due.is("none: the old one forgot today", x.forgets(), NONE);
    Document.says("if nobody walks;");
    x = Due.days(Due.landOf("f2,2;l0,1,1;p0,1;"), 1);
    Due.is("nobody walks", x.forgets(), 2);
    x.walk(0, 0);
    Due.is("one walked", x.forgets(), 3);
    Document.says("NONE: there is none.");
    Due.is("highways and rivers", Due.landOf("f1,2;h0,1,1;r0,1,1;p0,3;").forgets(), NONE);
    Due.is("no roads", Due.landOf("f1,2;p0,0;").forgets(), NONE);
  }

  private static void nobodyAndRound() {
    Document.says("NOBODY in d DAYS (0 to 99): lanes, narrow ones, old ones (bits) that OPEN to no SOLE then.");
    FeetRoads x = Document.mill();
    int[] due = {0, 0, 0, 35, 35, 39};
    for (int d = 0; d <= 5; d++) {
      Due.is("NOBODY in " + d, x.nobody(d), due[d]);
    }
    Due.is("NOBODY in 99", x.nobody(99), 39);
    Document.says("ROUND: the shortest walk of one back to where it is, by ROADS that OPEN to its SOLE,");
    Due.is("back by the highway", x.round(0), 2 + 3 + 4 + 9);
    Due.is("back by the same lanes", x.round(1), 2 + 6 + 6 + 2);
    Document.says("over all lanes, narrow ones, old ones that do so: LONG; NONE.");
    Due.is("over none", x.round(2), 0);
    Due.is("NONE", Due.landOf("f1,4;o2,3,1;p0,1;").round(0), NONE);
  }

  private static void barsAndMeet() {
    Document.says("BARS: the fewest ROADS without which one does not REACH a PLACE: how many;");
    FeetRoads x = Document.mill();
    Due.is("two", x.bars(0, 3, 0), 2);
    Due.is("the river", x.bars(0, 4, 0), 1);
    Due.is("none", x.bars(2, 1, 0), 0);
    Document.says("which (bits), of several the least;");
    Due.is("the least of three", x.bars(0, 3, 1), 1 + 8);
    Due.is("the river", x.bars(0, 4, 1), 16);
    Due.is("none", x.bars(2, 1, 1), 0);
    Document.says("NONE: it is there.");
    Due.all("it is there", NONE, x.bars(0, 0, 0), x.bars(1, 1, 1), x.bars(2, 3, 0));
    Document.says("MEET: the PLACE to which the WAYS of two, added, are shortest, of several the first; that; NONE.");
    Due.is("the first of two", x.meet(0, 1, 0) * 100 + x.meet(0, 1, 1), 2);
    Due.is("the first of two, told the other way round", x.meet(1, 0, 0) * 100 + x.meet(1, 0, 1), 2);
    Due.is("far off", x.meet(1, 2, 0) * 100 + x.meet(1, 2, 1), 11);
    x.walk(2, 4);
    Due.is("farther off", x.meet(0, 2, 0) * 100 + x.meet(0, 2, 1), 14);
    Due.all("NONE", NONE, Due.landOf("f1,3;l0,1,1;p0,1;p2,1;").meet(0, 1, 0),
        Due.landOf("f1,3;l0,1,1;p0,1;p2,1;").meet(0, 1, 1));
  }

  private static void whoseAndSnow() {
    Document.says("WHOSE: a row tells ROADS gone over one behind another from a PLACE on");
    FeetRoads x = Document.millWithRow(3, 4, 4, 2, 1, 0, 5);
    Due.is("from place 0 on", x.whose(0, 0, 3, 0), 7);
    Document.says("(each begins where the one ahead ended):");
    Due.is("0, 3, 4, 3, 2, 1, 0", x.whose(0, 0, 6, 0), 1);
    Due.is("not from place 2", x.whose(0, 0, 6, 2), BAD);
    Due.is("road 2 does not begin at 0", x.whose(0, 3, 1, 0), BAD);
    Document.says("SOLES (bits) that can have gone so: each ROAD OPENS to it,");
    Due.is("0, 2 by road 5", x.whose(0, 6, 1, 0), 2);
    Due.is("1, 0, 2 by roads 0, 5", x.whose(0, 5, 2, 1), 2);
    Due.is("none by all", x.whose(0, 0, 7, 0), 0);
    Document.says("ROADS having met it on the way, too.");
    FeetRoads y = Due.landOf("f9,2;n0,1,1;p0,1;p0,0;");
    y.row(0, 0, 2);
    y.lead(0, 1, 0);
    Due.is("a narrow one that met once is not gone over a first time", y.whose(0, 0, 2, 0), 1);
    Document.says("SNOW: each ROAD is closed by c of 10, each by itself: that one REACHES a PLACE: a fraction.");
    x = Document.mill();
    Due.is("a highway beside three in a row, above", x.snow(0, 3, 1, 0), 9729);
    Due.is("a highway beside three in a row, below", x.snow(0, 3, 1, 1), 10000);
    Due.is("by halves", x.snow(0, 3, 5, 0) * 100 + x.snow(0, 3, 5, 1), 916);
    Due.is("one river", x.snow(2, 4, 4, 0) * 100 + x.snow(2, 4, 4, 1), 305);
  }

  private static void kinds() {
    Document.says("KINDS of ROADS: 0 ROAD; 1 LANE, a ROAD; 2 NARROW, a LANE; 3 OLD, a LANE; 4 HIGHWAY, a ROAD;");
    Document.says("5 RIVER, a HIGHWAY. By this it is asked.");
    FeetRoads x = Document.mill();
    int[] are = {0b000011, 0b000111, 0b001011, 0b010001, 0b110001};
    for (int road = 0; road <= 4; road++) {
      for (int kind = 0; kind <= 5; kind++) {
        Due.is(road + " as " + kind, x.as(road, kind), (are[road] >> kind & 1) == 1 ? road : Due.KIND);
      }
    }
    Document.says("```");
  }

  private static void asked(int road, int what, int due, int... traced) {
    FeetRoads x = Document.mill();
    Due.is("ask " + road + " " + what, x.ask(road, what), due);
    for (int i = 0; i < traced.length; i++) {
      Due.is("trace " + i + " of ask " + road + " " + what, x.trace(i), traced[i]);
    }
    Due.is("the end of the trace of ask " + road + " " + what, x.trace(traced.length), NONE);
  }

  private static void asksOfSize() {
    Document.says("======== 4 ASKS of ROADS, by BODIES, each of which leaves its number in THE TRACE as it begins");
    Document.says("(the first 16):");
    Due.is("none asked", Document.mill().trace(0), NONE);
    Document.says("0 SIZE: 10 lent to all ROADS: LONG. 11 of LANES: what 10 gives, and MARK.");
    asked(0, 0, 2 + 2, 11, 10, 21, 20);
    asked(5, 0, 6 + 6, 11, 10, 21, 20);
    asked(2, 0, 4 - 997, 11, 10, 22, 21, 20);
    Document.says("12 of NARROW ones: 0 less what 11 gives.");
    asked(1, 0, -(3 + 4), 12, 11, 10, 24, 21, 20);
    Document.says("13 of HIGHWAYS: what 10 gives, less 100.");
    asked(3, 0, 9 - 100, 13, 10);
    Document.says("14 of RIVERS: what 13 gives, twice.");
    asked(4, 0, 2 * (5 - 100), 14, 13, 10);
  }

  private static void asksOfMark() {
    Document.says("1 MARK: 20 lent to all ROADS: the number.");
    Document.says("21 of LANES: what 20 gives, and to how many SOLES it OPENS.");
    asked(0, 1, 0 + 2, 21, 20);
    asked(5, 1, 5 + 1, 21, 20);
    Document.says("22 of OLD ones: what 21 gives, less 1000.");
    asked(2, 1, 2 + 1 - 1000, 22, 21, 20);
    Document.says("23 of HIGHWAYS: what 20 gives, less SIZE.");
    asked(3, 1, 3 - (9 - 100), 23, 20, 13, 10);
    Document.says("24 of NARROW ones: what 21 gives, twice.");
    asked(1, 1, 2 * (1 + 1), 24, 21, 20);
  }

  private static void asksAnew() {
    Document.says("```text (Of an ask the BODY told for the KIND begins, else that of the nearest KIND that it is,");
    Document.says("too, else the one that is lent;");
    asked(4, 1, 4 - 2 * (5 - 100), 23, 20, 14, 13, 10);
    Document.says("SIZE, MARK within others are asked of the same ROAD anew.");
    asked(2, 0, 4 - 997, 11, 10, 22, 21, 20);
    asked(1, 0, -(3 + 4), 12, 11, 10, 24, 21, 20);
    Document.says("SOLES are as many as PEOPLE.)");
    Due.all("no more", BAD, Document.mill().met(0, 3, 0), Due.landOf("f1,2;l0,1,1;").met(0, 0, 0));
    Due.is("no more OPEN to", Due.landOf("f1,2;h0,1,1;p0,0;").road(0, 3), 1);
    Due.is("none OPEN to", Due.landOf("f1,2;h0,1,1;").road(0, 3), 0);
    Document.says("```");
  }

  private static void headings() {
    Document.says("Ahead of the calls `row`, `set`, `copy`, `drop` the interface says: ---- rows.");
    Document.heading("rows", "row", "set", "copy", "drop");
    Document.says("Ahead of the calls `feed`, `land`, `fault`, `walk`, `lead`, `change`, `heels`, `day`, `undo`,");
    Document.says("`person`, `road`, `met` the interface says: ---- lands, acts.");
    Document.heading("lands, acts", "feed", "land", "fault", "walk", "lead", "change", "heels", "day", "undo",
        "person", "road", "met");
    Document.says("Ahead of the calls `reach`, `way`, `led`, `introduced`, `forgets`, `nobody`, `round`, `bars`, `meet`,");
    Document.says("`whose`, `snow`, `image`, `restore` the interface says: ---- foretold.");
    Document.heading("foretold", "reach", "way", "led", "introduced", "forgets", "nobody", "round", "bars",
        "meet", "whose", "snow", "image", "restore");
    Document.says("Ahead of the calls `kind`, `as`, `ask`, `trace`, `count`, `status` the interface says: ---- asked.");
    Document.heading("asked", "kind", "as", "ask", "trace", "count", "status");
  }
}
