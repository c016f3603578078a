/** Promises 18 to 28 at their edges: nobody and nothing there, the nearest and the farthest, ties, first and last days. */
public final class ForetoldEdgesTest {
  private static final int NONE = Due.NONE, BAD = Due.BAD, STATE = Due.STATE;
  private static final String HIGHWAY_CHAIN = chain('h') + "p0,0;p7,0;";
  private static final String LANE_CHAIN = chain('l') + "p0,0;p7,0;";

  public static void main(String[] args) {
    noLand();
    noRoads();
    noPeople();
    nineRoadsFourPeople();
    farthestFirst();
    reach();
    way();
    led();
    introduced();
    introducedTies();
    forgets();
    forgetsTheFirst();
    nobody();
    nobodyOfAll();
    roundOfNone();
    roundThereAndBack();
    roundOfNine();
    roundOnlyWhatOpens();
    bars();
    barsTheLeast();
    meet();
    whoseOfNone();
    whoseRefusalsInOrder();
    whoseSixteen();
    whoseMeetings();
    snowOfOne();
    snowOfMany();
    Due.end();
  }

  /** Eight places in a row, seven roads of LONG 9 between them. */
  private static String chain(char sort) {
    StringBuilder text = new StringBuilder("f1,8;");
    for (int k = 0; k < 7; k++) {
      text.append(sort).append(k).append(',').append(k + 1).append(",9;");
    }
    return text.toString();
  }

  private static void noLand() {
    FeetRoads x = new FeetRoads();
    Due.all("no LAND: BAD", BAD, x.reach(0), x.way(0, 0), x.led(0, 1, 0), x.introduced(0, 0, 0), x.round(0),
        x.bars(0, 0, 0), x.meet(0, 1, 0), x.snow(0, 0, 0, 0));
    Due.all("no LAND: STATE", STATE, x.forgets(), x.nobody(0), x.nobody(99), x.whose(0, 0, 0, 0));
    Due.all("no LAND: STATE ahead of BAD", STATE, x.nobody(-1), x.nobody(100), x.nobody(Due.LEAST),
        x.nobody(Due.LARGEST), x.whose(-1, 0, 0, 0), x.whose(8, 0, 0, 0), x.whose(0, 0, 17, 0), x.whose(0, 0, 0, 8));
    x.row(0, 0, 1);
    Due.is("no LAND: STATE ahead of PLACE", x.whose(0, 5, 1, 0), STATE);
    Due.fed(x, "f1,2;x").land();
    Due.is("a LAND with a fault is none", x.forgets(), STATE);
  }

  private static void noRoads() {
    FeetRoads x = Due.landOf("f1,8;p7,0;p7,0;p0,0;");
    Due.is("no ROADS: reach", x.reach(0), 128);
    Due.is("no ROADS: way here", x.way(0, 7), 0);
    Due.is("no ROADS: no way", x.way(0, 0), NONE);
    Due.is("no ROADS: led here", x.led(0, 1, 7), 0);
    Due.is("no ROADS: led nowhere, not even to the other", x.led(0, 2, 0), NONE);
    Due.all("no ROADS: introduced here", 0, x.introduced(0, 7, 0), x.introduced(0, 7, 1));
    Due.all("no ROADS: introduced nowhere", NONE, x.introduced(0, 6, 0), x.introduced(0, 6, 1));
    Due.is("no ROADS: forgets", x.forgets(), NONE);
    Due.all("no ROADS: nobody", 0, x.nobody(0), x.nobody(99));
    Due.is("no ROADS: round", x.round(0), 0);
    Due.all("no ROADS: bars here", NONE, x.bars(0, 7, 0), x.bars(0, 7, 1));
    Due.all("no ROADS: bars", 0, x.bars(0, 0, 0), x.bars(0, 0, 1));
    Due.is("no ROADS: meet at one place", x.meet(0, 1, 0) * 10 + x.meet(0, 1, 1), 70);
    Due.all("no ROADS: meet nowhere", NONE, x.meet(0, 2, 0), x.meet(0, 2, 1));
    Due.is("no ROADS: snow here", x.snow(0, 7, 10, 0) * 10 + x.snow(0, 7, 10, 1), 11);
    Due.is("no ROADS: snow", x.snow(0, 0, 0, 0) * 10 + x.snow(0, 0, 0, 1), 1);
    x.row(0, 0, 1);
    Due.is("no ROADS: whose of none", x.whose(0, 0, 0, 7), 7);
    Due.is("no ROADS: whose of an ITEM", x.whose(0, 0, 1, 7), BAD);
  }

  private static void noPeople() {
    FeetRoads x = Due.landOf("f1,2;l0,1,4;n0,1,5;o0,1,6;h0,1,7;r0,1,8;");
    Due.all("no PEOPLE: BAD", BAD, x.reach(0), x.way(0, 0), x.led(0, 1, 0), x.introduced(0, 0, 0), x.round(0),
        x.bars(0, 0, 0), x.meet(0, 1, 0), x.snow(0, 0, 0, 0));
    Due.is("no PEOPLE: forgets", x.forgets(), NONE);
    Due.all("no PEOPLE: nobody", 7, x.nobody(0), x.nobody(99));
    x.row(0, 0, 2);
    Due.is("no PEOPLE: whose of none", x.whose(0, 0, 0, 0), 0);
    Due.is("no PEOPLE: whose", x.whose(0, 0, 2, 0), 0);
    Due.is("no PEOPLE: whose that does not begin there", x.whose(0, 0, 2, 2), BAD);
    FeetRoads one = Due.landOf("f1,2;h0,1,4;p0,0;");
    Due.all("one of PEOPLE: no other", BAD, one.led(0, 1, 0), one.led(1, 0, 0), one.meet(0, 1, 0), one.meet(1, 0, 0));
  }

  /** Behind the ninth road and the fourth one there is nothing more to look at. */
  private static void nineRoadsFourPeople() {
    FeetRoads x = Due.landOf("f5,8;" + Due.times("l7,6,9;", 8) + "h6,7,1;p7,255;p6,0;p5,0;p4,0;");
    Due.is("nine: introduced", x.introduced(3, 7, 0), NONE);
    Due.is("nine: introduced to none", x.introduced(0, 6, 0) * 10 + x.introduced(0, 6, 1), 1);
    Due.is("nine: reach", x.reach(0), 192);
    Due.is("nine: way", x.way(0, 6), 1);
    Due.is("nine: led", x.led(1, 0, 7), 1);
    Due.days(x, 3);
    x.walk(0, 0);
    Due.is("nine: forgets", x.forgets(), 3);
    Due.is("nine: nobody", x.nobody(2) * 1000 + x.nobody(3), 254);
    Due.is("nine: bars", x.bars(0, 7, 0) * 1000 + x.bars(0, 7, 1), 9511);
    x = Due.days(Due.landOf("f5,2;" + Due.times("l0,1,9;", 9) + "p0,511;"), 3);
    x.walk(0, 0);
    Due.is("nine lanes: forgets", x.forgets(), 3);
    Due.is("four: forgets, the road behind", Due.landOf("f2,2;l0,1,1;o0,1,1;p0,2;p0,0;p0,0;p0,0;").forgets(), 5);
    Due.is("four: forgets, the road ahead", Due.landOf("f2,2;o0,1,1;l0,1,1;p0,0;p0,0;p0,0;p0,1;").forgets(), 5);
  }

  /** Roads told from the farthest one on: what is near is found last. */
  private static void farthestFirst() {
    String there = "f1,8;h6,7,9;h5,6,9;h4,5,9;h3,4,9;h2,3,9;h1,2,9;h0,1,9;p0,0;p7,0;";
    String back = "f1,8;h7,6,9;h6,5,9;h5,4,9;h4,3,9;h3,2,9;h2,1,9;h1,0,9;p0,0;p7,0;";
    for (String text : new String[] {there, back}) {
      FeetRoads x = Due.landOf(text);
      Due.all("farthest first: reach", 255, x.reach(0), x.reach(1));
      Due.all("farthest first: way", 63, x.way(0, 7), x.way(1, 0), x.led(0, 1, 7), x.introduced(1, 0, 1));
      Due.is("farthest first: bars", x.bars(0, 7, 0) * 10 + x.bars(0, 7, 1), 11);
      Due.is("farthest first: snow", x.snow(0, 7, 9, 1), 10000000);
    }
  }

  private static void reach() {
    Due.is("reach all eight", Due.landOf(HIGHWAY_CHAIN).reach(0), 255);
    Due.is("reach all eight from the other end", Due.landOf(HIGHWAY_CHAIN).reach(1), 255);
    Due.is("reach where it is, nothing known", Due.landOf(LANE_CHAIN).reach(1), 128);
    FeetRoads x = Due.landOf(chain('l') + "p3,119;p3,8;");
    Due.is("reach until a road that does not open", x.reach(0), 15);
    Due.is("reach by one road", x.reach(1), 24);
    x.change(0, 1);
    Due.is("reach by the SOLE", x.reach(0), 24);
    Due.is("reach: walks are forgotten, so the road ahead stays closed", Due.landOf("f1,3;l0,1,1;l1,2,1;p0,2;").reach(0),
        1);
  }

  private static void way() {
    FeetRoads x = Due.landOf(HIGHWAY_CHAIN);
    Due.is("way of seven roads", x.way(0, 7), 63);
    Due.is("way back", x.way(1, 0), 63);
    Due.is("way here", x.way(1, 7), 0);
    Due.is("no way", Due.landOf(LANE_CHAIN).way(0, 1), NONE);
    x = Due.landOf("f1,3;h0,1,9;h0,1,2;h1,2,2;h0,2,5;p0,0;");
    Due.is("way: the shorter of two roads", x.way(0, 1), 2);
    Due.is("way: more roads, but shorter", x.way(0, 2), 4);
    x = Due.landOf("f1,3;l0,1,1;h0,2,9;h2,1,9;p0,1;");
    Due.is("way: by the lane", x.way(0, 1), 1);
    Due.days(x, 2);
    Due.is("way: about, the lane having faded", x.way(0, 1), 18);
  }

  private static void led() {
    FeetRoads x = Due.landOf("f1,5;l0,1,1;l1,2,2;l2,3,3;p0,1;p4,2;p3,4;");
    Due.is("led by the SOLES of both, the other being far", x.led(0, 1, 2), 3);
    Due.is("led begins where the first is", x.led(1, 0, 2), NONE);
    Due.is("led: a third SOLE does not help", x.led(0, 1, 3), NONE);
    Due.is("led: not to where the other is", x.led(0, 1, 4), NONE);
    Due.is("led here", x.led(0, 1, 0), 0);
    Due.is("led by both, not all of the way by one", x.led(0, 2, 1), 1);
    Due.is("led: seven roads", Due.landOf(chain('l') + "p0,85;p7,42;").led(0, 1, 7), 63);
  }

  private static void introduced() {
    FeetRoads x = Due.landOf(LANE_CHAIN);
    Due.is("introduced to seven", x.introduced(0, 7, 0), 7);
    Due.is("introduced to seven, LONG", x.introduced(0, 7, 1), 63);
    Due.all("introduced here", 0, x.introduced(1, 7, 0), x.introduced(1, 7, 1));
    x = Due.landOf(HIGHWAY_CHAIN);
    Due.is("introduced to none", x.introduced(0, 7, 0), 0);
    Due.is("introduced to none, LONG", x.introduced(0, 7, 1), 63);
    x = Due.landOf("f1,4;l0,1,1;p0,1;");
    Due.all("introduced to a place without roads", NONE, x.introduced(0, 3, 0), x.introduced(0, 3, 1));
    Due.all("introduced to a lane that opens", 0, x.introduced(0, 1, 0), x.introduced(0, 0, 1));
    Due.days(x, 2);
    Due.is("introduced to a lane that has faded", x.introduced(0, 1, 0), 1);
    x = Due.landOf("f9,2;n0,1,3;p0,1;p0,0;");
    x.lead(0, 1, 0);
    Due.is("introduced to a narrow one that met once", x.introduced(1, 0, 0), 1);
  }

  private static void introducedTies() {
    FeetRoads x = Due.landOf("f1,8;l0,7,1;h0,1,9;h1,2,9;h2,3,9;h3,4,9;h4,5,9;h5,6,9;h6,7,9;p0,0;");
    Due.is("none, though 63", x.introduced(0, 7, 0), 0);
    Due.is("none, though 63: LONG", x.introduced(0, 7, 1), 63);
    x = Due.landOf("f1,3;l0,1,9;l0,1,4;l0,1,5;h1,2,1;p0,0;");
    Due.is("of as few the shortest", x.introduced(0, 2, 0), 1);
    Due.is("of as few the shortest: LONG", x.introduced(0, 2, 1), 5);
  }

  private static void forgets() {
    Due.is("forgets a lane, FADE 1", Due.landOf("f1,2;l0,1,1;p0,1;").forgets(), 2);
    Due.is("forgets a lane, FADE 30", Due.landOf("f30,2;l0,1,1;p0,1;").forgets(), 31);
    Due.is("forgets a narrow one, FADE 30", Due.landOf("f30,2;n0,1,1;p0,1;").forgets(), 31);
    Due.is("forgets an old one, FADE 1", Due.landOf("f1,2;o0,1,1;p0,1;").forgets(), 3);
    Due.is("forgets an old one, FADE 30", Due.landOf("f30,2;o0,1,1;p0,1;").forgets(), 61);
    Due.is("forgets no highway", Due.landOf("f1,2;h0,1,1;p0,1;").forgets(), NONE);
    Due.is("forgets no river", Due.landOf("f1,2;r0,1,1;p0,1;").forgets(), NONE);
    Due.is("forgets no lane that does not open", Due.landOf("f1,2;l0,1,1;p0,0;").forgets(), NONE);
    FeetRoads x = Due.landOf("f9,2;l0,1,1;p0,1;");
    for (int day = 0; day < 10; day++) {
      Due.is("forgets on day " + day, x.forgets(), 10 - day);
      x.day();
    }
    Due.is("forgets nothing more", x.forgets(), NONE);
  }

  private static void forgetsTheFirst() {
    FeetRoads x = Due.landOf("f2,2;o0,1,1;l0,1,1;p0,3;");
    Due.is("the first of two roads", x.forgets(), 3);
    Due.days(x, 3);
    Due.is("the other road then", x.forgets(), 2);
    x = Due.landOf("f5,2;n0,1,1;p0,1;p0,0;");
    Due.days(x, 2);
    x.lead(0, 1, 0);
    Due.is("a narrow one that met another once: the one it opens to", x.forgets(), 6);
    x = Due.landOf("f5,2;l0,1,1;p0,1;p0,1;");
    Due.days(x, 2);
    x.walk(0, 0);
    Due.is("the first of two SOLES", x.forgets(), 4);
    x.heels(1);
    Due.is("the other SOLE, the first having new heels", x.forgets(), 6);
  }

  private static void nobody() {
    FeetRoads x = Due.landOf("f30,2;l0,1,1;n0,1,1;o0,1,1;h0,1,1;r0,1,1;p0,31;");
    Due.is("nobody in 0 days", x.nobody(0), 0);
    Due.is("nobody in FADE days", x.nobody(30), 0);
    Due.is("nobody in FADE days and one", x.nobody(31), 3);
    Due.is("nobody in twice FADE days", x.nobody(60), 3);
    Due.is("nobody in twice FADE days and one", x.nobody(61), 7);
    Due.is("nobody in 99 days", x.nobody(99), 7);
    Due.all("nobody, no such d", BAD, x.nobody(-1), x.nobody(100), x.nobody(Due.LEAST), x.nobody(Due.LARGEST));
    Due.days(x, 30);
    Due.is("nobody today", x.nobody(0), 0);
    Due.is("nobody tomorrow", x.nobody(1), 3);
    x.walk(0, 0);
    Due.is("nobody tomorrow, one having walked", x.nobody(1), 2);
  }

  private static void nobodyOfAll() {
    String nine = "f1,2;" + Due.times("l0,1,1;", 9);
    Due.is("nobody: all nine", Due.landOf(nine + "p0,0;").nobody(0), 511);
    Due.is("nobody: none of nine", Due.landOf(nine + "p0,170;p0,341;").nobody(1), 0);
    Due.is("nobody: all nine, later", Due.landOf(nine + "p0,170;p0,341;").nobody(2), 511);
    FeetRoads x = Due.landOf("f5,2;n0,1,1;l0,1,1;p0,2;p0,1;");
    x.lead(1, 0, 0);
    x.heels(1);
    Due.is("nobody: a narrow one that met once", x.nobody(0), 1);
  }

  private static void roundOfNone() {
    Due.is("round of none, highways", Due.landOf(HIGHWAY_CHAIN).round(0), 0);
    Due.is("round of none, a river", Due.landOf("f1,2;r0,1,5;p0,1;").round(0), 0);
    Due.is("round of none, lanes that do not open", Due.landOf(LANE_CHAIN).round(0), 0);
    Due.is("no round: a lane far off", Due.landOf("f1,4;l2,3,1;p0,1;").round(0), NONE);
    Due.is("no round: one of two far off", Due.landOf("f1,4;l0,1,1;l2,3,1;p0,3;").round(0), NONE);
    FeetRoads x = Due.landOf("f1,4;l0,1,1;l2,3,1;p0,3;");
    Due.days(x, 2);
    Due.is("a round: the far one having faded", x.round(0), 0);
  }

  private static void roundThereAndBack() {
    Due.is("round: a lane there and back", Due.landOf("f1,2;l0,1,9;p0,1;").round(0), 18);
    Due.is("round: back by a highway", Due.landOf("f1,2;l0,1,9;h1,0,1;p0,1;").round(0), 10);
    Due.is("round: back by a river", Due.landOf("f1,2;l0,1,9;r1,0,1;p0,1;").round(0), 10);
    Due.is("round: a longer highway is left aside", Due.landOf("f1,2;l0,1,4;h1,0,9;p0,1;").round(0), 8);
    Due.is("round: by a highway to a lane", Due.landOf("f1,3;h0,1,5;l1,2,2;p0,2;").round(0), 14);
    Due.is("round: seven lanes in a row", Due.landOf(chain('l') + "p0,127;").round(0), 126);
    Due.is("round: seven lanes in a row, from within", Due.landOf(chain('l') + "p3,127;").round(0), 126);
    Due.is("round: a ring", Due.landOf("f1,3;l0,1,2;n1,2,3;o2,0,4;p1,7;").round(0), 9);
  }

  private static void roundOfNine() {
    Due.is("round: nine lanes side by side", Due.landOf("f1,2;" + Due.times("l0,1,1;", 9) + "p0,511;").round(0), 10);
    Due.is("round: eight of nine", Due.landOf("f1,2;" + Due.times("l0,1,1;", 9) + "p0,255;").round(0), 8);
    Due.is("round: nine, back by the shortest",
        Due.landOf("f1,2;" + Due.times("l0,1,9;", 8) + "n0,1,2;p1,511;").round(0), 76);
    Due.is("round: two rings of nine",
        Due.landOf("f1,8;l0,1,1;l1,2,1;l2,3,1;l3,0,1;l0,4,1;l4,5,1;l5,6,1;l6,7,1;l7,0,1;p0,511;").round(0), 9);
  }

  private static void roundOnlyWhatOpens() {
    FeetRoads x = Due.landOf("f9,2;n0,1,5;l0,1,2;p0,3;p0,2;");
    x.lead(0, 1, 0);
    Due.is("round: not over a narrow one that met once", x.round(1), 4);
    x.lead(0, 1, 0);
    Due.is("round: over a narrow one that met twice", x.round(1), 7);
    Due.is("round: walks are forgotten", x.round(0), 7);
  }

  private static void bars() {
    FeetRoads x = Due.landOf(HIGHWAY_CHAIN);
    Due.all("bars: it is there", NONE, x.bars(0, 0, 0), x.bars(0, 0, 1));
    Due.is("bars: one of seven", x.bars(0, 7, 0), 1);
    Due.is("bars: one of seven, the least", x.bars(0, 7, 1), 1);
    Due.is("bars: one of seven, the least, from behind", x.bars(1, 6, 1), 64);
    x = Due.landOf(LANE_CHAIN);
    Due.all("bars: not reached anyway", 0, x.bars(0, 7, 0), x.bars(0, 7, 1));
    x = Due.landOf("f1,2;" + Due.times("l0,1,1;", 9) + "p0,511;p1,170;");
    Due.is("bars: nine", x.bars(0, 1, 0) * 1000 + x.bars(0, 1, 1), 9511);
    Due.is("bars: four that open of nine", x.bars(1, 0, 0) * 1000 + x.bars(1, 0, 1), 4170);
    Due.days(x, 2);
    Due.all("bars: none, all having faded", 0, x.bars(0, 1, 0), x.bars(0, 1, 1));
  }

  private static void barsTheLeast() {
    FeetRoads x = Due.landOf("f1,3;h1,2,1;h0,1,1;p0,0;");
    Due.is("bars: of two roads the least", x.bars(0, 2, 1), 1);
    x = Due.landOf("f1,3;h1,2,1;h1,2,1;h1,2,1;h0,1,1;p0,0;");
    Due.is("bars: the fewest ahead of the least", x.bars(0, 2, 0) * 100 + x.bars(0, 2, 1), 108);
    x = Due.landOf("f1,4;h2,3,1;h1,2,1;h0,3,1;h0,1,1;p0,0;");
    Due.is("bars: two of a ring, the least", x.bars(0, 2, 0) * 100 + x.bars(0, 2, 1), 203);
    Due.is("bars: two of a ring, the least, elsewhere", x.bars(0, 1, 0) * 100 + x.bars(0, 1, 1), 200 + 8 + 1);
  }

  private static void meet() {
    FeetRoads x = Due.landOf(HIGHWAY_CHAIN);
    Due.is("meet: all as short, the first", x.meet(0, 1, 0) * 100 + x.meet(0, 1, 1), 63);
    Due.is("meet: all as short, the first, told from behind", x.meet(1, 0, 0) * 100 + x.meet(1, 0, 1), 63);
    x = Due.landOf(LANE_CHAIN);
    Due.all("meet nowhere", NONE, x.meet(0, 1, 0), x.meet(0, 1, 1));
    x = Due.landOf("f1,8;p7,0;p7,0;");
    Due.is("meet where both are", x.meet(0, 1, 0) * 100 + x.meet(0, 1, 1), 700);
    x = Due.landOf("f1,4;l0,1,3;l2,1,4;p0,1;p2,2;");
    Due.is("meet: each by its own SOLE", x.meet(0, 1, 0) * 100 + x.meet(0, 1, 1), 107);
    x.change(0, 1);
    Due.all("meet: nowhere by the other's SOLE", NONE, x.meet(0, 1, 0), x.meet(0, 1, 1));
    x = Due.landOf("f1,3;l1,2,3;p1,1;p2,0;");
    Due.is("meet: at the place of the one who cannot go", x.meet(0, 1, 0) * 100 + x.meet(0, 1, 1), 203);
  }

  private static void whoseOfNone() {
    FeetRoads x = Due.landOf("f1,8;l0,1,1;p0,0;p0,0;p0,0;p0,0;");
    x.row(0, 0, 0);
    x.row(1, 2, 40);
    Due.is("whose of a row of 0", x.whose(0, 0, 0, 0), 15);
    Due.is("whose of none, from the last place", x.whose(1, 0, 0, 7), 15);
    Due.is("whose of none, at the end", x.whose(1, 40, 0, 0), 15);
    Due.is("whose of none, beyond the end", x.whose(1, 41, 0, 0), Due.PLACE);
    Due.is("whose of none, ahead of the first", x.whose(1, -1, 0, 0), Due.PLACE);
    Due.is("whose of one of a row of 0", x.whose(0, 0, 1, 0), Due.PLACE);
  }

  private static void whoseRefusalsInOrder() {
    FeetRoads x = Due.town();
    x.row(0, 2, 3);
    x.set(0, 1, 7);
    x.set(0, 2, -1);
    Due.all("whose: BAD ahead of NULL", BAD, x.whose(1, 0, 17, 0), x.whose(1, 0, -1, 0), x.whose(1, 0, 0, 6),
        x.whose(1, 0, 0, -1));
    Due.all("whose: BAD ahead of PLACE", BAD, x.whose(0, 9, 17, 0), x.whose(0, -1, 1, 6), x.whose(0, 0, -1, 0),
        x.whose(0, 0, Due.LEAST, 0), x.whose(0, 0, Due.LARGEST, 0));
    Due.all("whose: NULL ahead of PLACE", Due.NULL, x.whose(1, -1, 0, 0), x.whose(7, 40, 16, 0));
    Due.all("whose: PLACE ahead of a BAD ITEM", Due.PLACE, x.whose(0, 1, 3, 0), x.whose(0, -1, 3, 0),
        x.whose(0, 0, 4, 5), x.whose(0, Due.LARGEST, 1, 0), x.whose(0, Due.LARGEST, 16, 0), x.whose(0, Due.LEAST, 16, 0));
    Due.is("whose: an ITEM that does not begin there", x.whose(0, 0, 1, 2), BAD);
    Due.is("whose: an ITEM one above the ROADS", x.whose(0, 1, 1, 0), BAD);
    Due.is("whose: an ITEM one below the ROADS", x.whose(0, 2, 1, 0), BAD);
    Due.is("whose: a BAD ITEM behind a good one", x.whose(0, 0, 2, 0), BAD);
    x.set(0, 1, Due.LEAST);
    x.set(0, 2, Due.LARGEST);
    Due.all("whose: ITEMS at an int's edges", BAD, x.whose(0, 1, 1, 0), x.whose(0, 2, 1, 0));
    x.set(0, 1, 2);
    Due.is("whose: a BAD ITEM though no SOLE has come so far", x.whose(0, 0, 2, 0), BAD);
  }

  private static void whoseSixteen() {
    FeetRoads x = Due.landOf("f1,2;l0,1,1;h0,1,1;p0,1;p0,0;");
    x.row(0, 0, 40);
    Due.is("whose of 16", x.whose(0, 0, 16, 0), 1);
    Due.is("whose of the last 16", x.whose(0, 24, 16, 1), 1);
    Due.is("whose of 16 beyond the end", x.whose(0, 25, 16, 0), Due.PLACE);
    Due.is("whose of 17", x.whose(0, 0, 17, 0), BAD);
    for (int i = 0; i < 40; i++) {
      x.set(0, i, 1);
    }
    Due.is("whose of 16, a highway", x.whose(0, 0, 16, 0), 3);
    x.set(0, 15, 0);
    Due.is("whose of 16, the last a lane", x.whose(0, 0, 16, 0), 1);
    x.set(0, 15, 2);
    Due.is("whose of 16, the last no road", x.whose(0, 0, 16, 0), BAD);
    Due.is("whose of 15 ahead of it", x.whose(0, 0, 15, 0), 3);
  }

  private static void whoseMeetings() {
    FeetRoads x = Due.landOf("f9,2;n0,1,1;l0,1,1;p0,3;p0,0;");
    x.row(0, 0, 3);
    x.lead(0, 1, 0);
    Due.is("whose: a narrow one that met once does not open on the way", x.whose(0, 0, 2, 0), 1);
    x.lead(0, 1, 0);
    Due.is("whose: a narrow one that met twice", x.whose(0, 0, 2, 0), 3);
    Due.is("whose changes no meeting", x.met(0, 0, 0) * 10 + x.met(0, 1, 0), 42);
    Due.days(x, 9);
    Due.is("whose on the last day", x.whose(0, 0, 3, 1), 3);
    x.day();
    Due.is("whose one day more", x.whose(0, 0, 3, 1), 0);
    Due.is("whose: SOLES, wherever they are", x.whose(0, 0, 0, 0), 3);
  }

  private static void snow(String what, FeetRoads x, int place, int c, long above, long below) {
    Due.is(what + ", above", x.snow(0, place, c, 0), above);
    Due.is(what + ", below", x.snow(0, place, c, 1), below);
  }

  private static void snowOfOne() {
    FeetRoads x = Due.landOf("f1,3;h0,1,1;l1,2,1;p0,0;");
    int[][] lowest = {{1, 1}, {9, 10}, {4, 5}, {7, 10}, {3, 5}, {1, 2}, {2, 5}, {3, 10}, {1, 5}, {1, 10}, {0, 1}};
    for (int c = 0; c <= 10; c++) {
      snow("snow on one, " + c, x, 1, c, lowest[c][0], lowest[c][1]);
      snow("snow where it is, " + c, x, 0, c, 1, 1);
      snow("snow on a road that does not open, " + c, x, 2, c, 0, 1);
    }
    Due.all("snow, no such c", BAD, x.snow(0, 1, -1, 0), x.snow(0, 1, 11, 0), x.snow(0, 1, 11, 1),
        x.snow(0, 1, Due.LEAST, 0), x.snow(0, 1, Due.LARGEST, 1));
  }

  private static void snowOfMany() {
    FeetRoads x = Due.landOf(HIGHWAY_CHAIN);
    snow("snow on seven in a row, 1", x, 7, 1, 4782969, 10000000);
    snow("snow on seven in a row, 9", x, 7, 9, 1, 10000000);
    snow("snow on seven in a row, 5", x, 7, 5, 1, 128);
    snow("snow on six of seven", x, 6, 5, 1, 64);
    x = Due.landOf("f1,2;" + Due.times("h0,1,1;", 9) + "p0,0;");
    snow("snow on nine side by side, 1", x, 1, 1, 999999999, 1000000000);
    snow("snow on nine side by side, 5", x, 1, 5, 511, 512);
    snow("snow on nine side by side, 0", x, 1, 0, 1, 1);
    snow("snow on nine side by side, 10", x, 1, 10, 0, 1);
    x = Due.landOf("f1,4;h0,1,1;h1,3,1;h0,2,1;h2,3,1;h1,2,1;p0,0;");
    snow("snow on a bridge", x, 3, 5, 1, 2);
  }
}
