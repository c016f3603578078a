/** Promises 6 to 8 at their edges: the tape, each token, each number of a text, its end, what a land begins with. */
public final class TextEdgesTest {
  private static final int BAD = Due.BAD, FULL = Due.FULL, NONE = Due.NONE;
  private static final String LAW = "f1,2;", ROAD = "l0,1,1;", PERSON = "p0,0;", SORTS = "lnohr";

  public static void main(String[] args) {
    tapeFull();
    tapeOf120Read();
    tapeOf120TooShort();
    emptyTape();
    everyByteAsTheFirst();
    everyByteBehindTheLaw();
    everyByteAsNumber();
    everyByteAsComma();
    everyByteAsSemicolon();
    everyEndTooSoon();
    figures();
    lawNumbers();
    roadNumbers();
    personNumbers();
    tooManyRoads();
    tooManyPeople();
    leastOfOneToken();
    firstInTheText();
    faultsLeaveAll();
    landBegins();
    landInPlace();
    latestFault();
    Due.end();
  }

  private static void refused(String text, int place, int number) {
    FeetRoads x = Due.fed(new FeetRoads(), text);
    Due.is("land of " + text, x.land(), -1000100 - place);
    Due.is("fault of " + text, x.fault(), number);
    Due.is("the tape behind " + text, x.count(8), 0);
    Due.is("no land by " + text, x.count(3), 0);
  }

  private static void read(String text, int people) {
    FeetRoads x = Due.fed(new FeetRoads(), text);
    Due.is("land of " + text, x.land(), people);
    Due.is("no fault of " + text, x.fault(), 0);
    Due.is("people of " + text, x.count(2), people);
    Due.is("the tape behind " + text, x.count(8), 0);
  }

  private static void tapeFull() {
    FeetRoads x = new FeetRoads();
    for (int k = 1; k <= 120; k++) {
      Due.is("feed " + k, x.feed(k), k);
      Due.is("bytes " + k, x.count(8), k);
    }
    Due.all("feed 121", FULL, x.feed(0), x.feed(102), x.feed(255));
    Due.all("feed: BAD ahead of FULL", BAD, x.feed(-1), x.feed(256), x.feed(Due.LEAST), x.feed(Due.LARGEST));
    Due.is("bytes of a full tape", x.count(8), 120);
    Due.is("a full tape of odd bytes", x.land(), -1000100);
    Due.is("feed behind a land", x.feed(0), 1);
  }

  /** 120 bytes: a law of 9, seven roads of 12, three people of 9. */
  private static String whole() {
    return "f001,002;" + Due.times("l000,001,01;", 7) + Due.times("p001,127;", 3);
  }

  private static void tapeOf120Read() {
    Due.is("a text of 120", whole().length(), 120);
    read(whole(), 3);
    FeetRoads x = Due.fed(new FeetRoads(), whole());
    Due.is("a byte more does not come", x.feed('x'), FULL);
    Due.is("a text of 120 is read as it is", x.land(), 3);
  }

  private static void tapeOf120TooShort() {
    String begun = "f001,002;" + Due.times("l000,001,01;", 7) + Due.times("p001,00;", 3);
    refused(begun + "p01", 120, 1);
    refused(begun + "p02", 118, 2);
    refused(begun + "p1x", 119, 1);
    refused(begun + "p1,", 120, 1);
    refused(whole().substring(0, 119) + ',', 119, 1);
    refused(whole().substring(0, 111) + "p001,0001", 116, 1);
  }

  private static void emptyTape() {
    refused("", 0, 1);
    FeetRoads x = Due.town();
    Due.is("an empty tape", x.land(), -1000100);
    Due.is("an empty tape leaves the land", x.count(2), 3);
  }

  private static void everyByteAsTheFirst() {
    for (int b = 0; b <= 255; b++) {
      refused("" + (char) b, b == 'f' ? 1 : 0, 1);
      refused((char) b + LAW, b == 'f' ? 1 : 0, 1);
    }
  }

  private static void everyByteBehindTheLaw() {
    for (int b = 0; b <= 255; b++) {
      boolean begins = (SORTS + 'p').indexOf(b) >= 0;
      refused(LAW + (char) b, begins ? 6 : 5, 1);
      refused(LAW + ROAD + (char) b, begins ? 13 : 12, 1);
      refused(LAW + PERSON + (char) b, b == 'p' ? 11 : 10, 1);
    }
  }

  private static boolean isFigure(int b) {
    return b >= '0' && b <= '9';
  }

  private static void everyByteAsNumber() {
    for (int b = 0; b <= 255; b++) {
      refused("f" + (char) b, isFigure(b) && b > '0' ? 2 : 1, b == '0' ? 2 : 1);
      boolean isPlace = b == '0' || b == '1';
      refused(LAW + 'l' + (char) b, isPlace ? 7 : 6, isFigure(b) && !isPlace ? 2 : 1);
      refused(LAW + 'p' + (char) b, isPlace ? 7 : 6, isFigure(b) && !isPlace ? 2 : 1);
    }
  }

  private static void everyByteAsComma() {
    for (int b = 0; b <= 255; b++) {
      refused("f1" + (char) b, b == ',' || isFigure(b) ? 3 : 2, 1);
      refused(LAW + "l0" + (char) b, b == ',' || b == '0' || b == '1' ? 8 : isFigure(b) ? 6 : 7,
          isFigure(b) && b > '1' ? 2 : 1);
    }
  }

  private static void everyByteAsSemicolon() {
    for (int b = 0; b <= 255; b++) {
      if (b != ';') {
        refused("f1,2" + (char) b, isFigure(b) ? 3 : 4, isFigure(b) ? 2 : 1);
        refused(LAW + "h0,1,9" + (char) b, isFigure(b) ? 10 : 11, isFigure(b) ? 2 : 1);
        refused(LAW + ROAD + "p0,1" + (char) b, isFigure(b) ? 15 : 16, isFigure(b) ? 2 : 1);
      }
    }
    read("f1,2;", 0);
    read(LAW + "h0,1,9;", 0);
    read(LAW + ROAD + "p0,1;", 1);
  }

  /** Each beginning of a text is a land where a part of it ends, else it has its fault at its end. */
  private static void everyEndTooSoon() {
    for (int end = 0; end <= Due.TOWN.length(); end++) {
      String text = Due.TOWN.substring(0, end);
      if (text.endsWith(";")) {
        read(text, (int) text.chars().filter(c -> c == 'p').count());
      } else {
        refused(text, end, 1);
      }
    }
  }

  private static void figures() {
    read("f1,2;", 0);
    read("f01,02;", 0);
    read("f001,002;", 0);
    read("f030,008;l007,000,009;p007,001;", 1);
    refused("f999,2;", 1, 2);
    refused("f000,2;", 1, 2);
    refused("f1,000;", 3, 2);
    refused("f1,999;", 3, 2);
    // four figures are no NUMBER, so no token
    refused("f0001,2;", 1, 1);
    refused("f1000,2;", 1, 1);
    refused("f1,0002;", 3, 1);
    refused("f1,9999999999;", 3, 1);
    refused("f1,4294967298;", 3, 1);
    refused("f1,18446744073709551618;", 3, 1);
    refused("f-1,2;", 1, 1);
    refused("f+1,2;", 1, 1);
    refused("f1.0,2;", 2, 1);
  }

  private static void lawNumbers() {
    read("f30,2;", 0);
    read("f1,8;", 0);
    read("f30,8;", 0);
    refused("f0,2;", 1, 2);
    refused("f31,2;", 1, 2);
    refused("f1,0;", 3, 2);
    refused("f1,1;", 3, 2);
    refused("f1,9;", 3, 2);
    refused("f30,10;", 4, 2);
    FeetRoads x = Due.landOf("f30,8;");
    Due.is("FADE and PLACES", x.count(4) * 10 + x.count(3), 308);
    x = Due.landOf("f1,2;");
    Due.is("FADE and PLACES, the least", x.count(4) * 10 + x.count(3), 12);
  }

  private static void roadNumbers() {
    for (int sort = 0; sort < SORTS.length(); sort++) {
      char s = SORTS.charAt(sort);
      FeetRoads x = Due.landOf("f1,8;" + s + "0,7,1;" + s + "7,0,9;");
      Due.is("KIND of " + s, x.kind(0) * 10 + x.kind(1), (sort + 1) * 11);
      Due.is("ends of " + s, x.road(0, 0) * 1000 + x.road(0, 1) * 100 + x.road(1, 0) * 10 + x.road(1, 1), 770);
      Due.is("LONG of " + s, x.road(0, 2) * 10 + x.road(1, 2), 19);
      refused("f1,8;" + s + "8,0,1;", 6, 2);
      refused("f1,8;" + s + "0,8,1;", 8, 2);
      refused("f1,8;" + s + "0,0,1;", 8, 2);
      refused("f1,8;" + s + "7,7,1;", 8, 2);
      refused("f1,8;" + s + "0,7,0;", 10, 2);
      refused("f1,8;" + s + "0,7,10;", 10, 2);
      refused("f1,8;" + s + ",7,1;", 6, 1);
      refused("f1,8;" + s + "0;", 7, 1);
      refused("f1,8;" + s + "0,7;", 9, 1);
      refused("f1,8;" + s + "0,7,1,", 11, 1);
    }
    refused("f1,2;l2,0,1;", 6, 2);
    refused("f1,2;l0,2,1;", 8, 2);
    refused("f1,8;l1,001,1;", 8, 2);
    read("f1,2;l0,1,1;l0,1,1;", 0);
  }

  private static void personNumbers() {
    read("f1,8;p7,0;", 1);
    refused("f1,8;p8,0;", 6, 2);
    refused("f1,2;p2,0;", 6, 2);
    for (int roads = 0; roads <= 9; roads++) {
      String law = LAW + Due.times(ROAD, roads);
      int all = (1 << roads) - 1;
      Due.is("KNOWN: all of " + roads, Due.landOf(law + "p0," + all + ";").person(0, 2), all);
      refused(law + "p0," + (all + 1) + ";", law.length() + 3, 2);
    }
    refused(LAW + Due.times(ROAD, 9) + "p0,999;", 71, 2);
    refused(LAW + "p,0;", 6, 1);
    refused(LAW + "p0;", 7, 1);
    refused(LAW + "p0,;", 8, 1);
    refused(LAW + "p0,0,", 9, 1);
  }

  private static void tooManyRoads() {
    String nine = LAW + Due.times(ROAD, 9);
    Due.is("nine roads", Due.landOf(nine).count(1), 9);
    for (int sort = 0; sort < SORTS.length(); sort++) {
      refused(nine + SORTS.charAt(sort), 68, 3);
      refused(nine + SORTS.charAt(sort) + "0,1,1;", 68, 3);
      refused(nine + SORTS.charAt(sort) + "9,x", 68, 3);
    }
    read(nine + PERSON, 1);
  }

  private static void tooManyPeople() {
    String four = LAW + Due.times(PERSON, 4);
    read(four, 4);
    refused(four + "p", 25, 3);
    refused(four + PERSON, 25, 3);
    refused(four + "p9,x", 25, 3);
    read(LAW + Due.times(ROAD, 9) + Due.times(PERSON, 4), 4);
    refused(LAW + Due.times(ROAD, 9) + Due.times(PERSON, 5), 88, 3);
  }

  private static void leastOfOneToken() {
    refused(LAW + Due.times(ROAD, 9) + PERSON + ROAD, 73, 1);
    refused(LAW + Due.times(ROAD, 9) + Due.times(PERSON, 4) + ROAD, 88, 1);
    refused(LAW + Due.times(PERSON, 4) + ROAD, 25, 1);
    refused(LAW + "31", 5, 1);
    refused("31", 0, 1);
    refused(LAW + LAW, 5, 1);
    refused(LAW + PERSON + LAW, 10, 1);
  }

  private static void firstInTheText() {
    refused("f0,x", 1, 2);
    refused("f31", 1, 2);
    refused("f1,9x", 3, 2);
    refused("f1,2x;l9", 4, 1);
    refused("f1,2;l5,5,0;", 6, 2);
    refused("f1,2;l0,0,0;", 8, 2);
    refused(LAW + Due.times(ROAD, 8) + "l0,0,1;l", 64, 2);
    refused(LAW + Due.times(PERSON, 3) + "p0,1;p", 23, 2);
  }

  private static void faultsLeaveAll() {
    for (String text : new String[] {"", "x", "f", "f0", "f9,8;l0,1,1;p0,1;x", "f9,8;p0,0;p0,1;"}) {
      FeetRoads x = Twins.busy();
      x.land();
      x.restore(0);
      x.day();
      x.row(5, 2, 3);
      x.ask(0, 0);
      Due.fed(x, text);
      Due.is("a fault", x.land() <= -1000100 ? 1 : 0, 1);
      int[] counts = {5, 7, 3, 6, 3, 1, 0, 1, 0};
      for (int what = 0; what <= 8; what++) {
        Due.is("count " + what + " behind the fault of " + text, x.count(what), counts[what]);
      }
      Due.is("the trace stays", x.trace(0) * 100 + x.trace(1), 1110);
      Due.is("the status stays", x.status(), 0);
      Due.is("places stay", x.person(0, 0) * 100 + x.person(1, 0) * 10 + x.person(2, 0), 14);
      Due.is("meetings stay", x.met(0, 0, 0) * 10 + x.met(3, 0, 0), 20);
      Due.is("an image stays", x.restore(0), 1);
    }
  }

  private static void landBegins() {
    FeetRoads x = Due.landOf("f2,3;l0,1,1;n0,1,1;o0,1,1;h0,1,1;r0,1,1;p0,31;p1,0;p2,21;p2,10;");
    int[] known = {15, 0, 5, 10};
    for (int person = 0; person <= 3; person++) {
      Due.is("SOLE " + person, x.person(person, 1), person);
      for (int road = 0; road <= 4; road++) {
        boolean met = (known[person] >> road & 1) == 1;
        Due.is("met twice: " + road + " " + person, x.met(road, person, 0), met ? 2 : 0);
        Due.is("met on day 0: " + road + " " + person, x.met(road, person, 1), met ? 0 : NONE);
      }
    }
    Due.is("places", x.person(0, 0) * 1000 + x.person(1, 0) * 100 + x.person(2, 0) * 10 + x.person(3, 0), 122);
    Due.is("what opens", x.person(0, 2) * 100 + x.person(1, 2), 3124);
  }

  private static void landInPlace() {
    FeetRoads x = Twins.busy();
    x.walk(2, 4);
    x.day();
    Due.is("a land in place: the tape was f9,2;", x.land(), 0);
    int[] counts = {4, 0, 0, 2, 9, 0, 0, 0, 0};
    for (int what = 0; what <= 8; what++) {
      Due.is("count " + what + " of a land in place", x.count(what), counts[what]);
    }
    Due.is("nobody of the land before", x.person(0, 0), BAD);
    Due.is("no road of the land before", x.road(0, 0), BAD);
    Due.is("no act of the land before", x.undo(), Due.STATE);
    Due.is("the image of the land before", x.restore(0), 1);
    Due.is("the image of the land before, its people", x.count(2), 3);
    Due.fed(x, LAW + Due.times(ROAD, 9) + Due.times("p0,511;", 4)).land();
    Due.fed(x, LAW + ROAD + "p0,0;p0,1;").land();
    Due.is("no meeting of the land before", x.met(0, 0, 0), 0);
    Due.is("no day of a meeting of the land before", x.met(0, 0, 1), NONE);
    Due.is("meetings of the land in place", x.met(0, 1, 0), 2);
  }

  private static void latestFault() {
    FeetRoads x = new FeetRoads();
    Due.is("no fault yet", x.fault(), 0);
    Due.fed(x, LAW).land();
    Due.is("no fault by a land that is read", x.fault(), 0);
    Due.fed(x, LAW + Due.times(PERSON, 5)).land();
    Due.is("fault 3", x.fault(), 3);
    Due.fed(x, "f0").land();
    Due.is("fault 2", x.fault(), 2);
    Due.fed(x, LAW).land();
    Due.is("the latest fault stays", x.fault(), 2);
    x.image(0);
    x.restore(0);
    x.day();
    x.undo();
    Due.is("the latest fault stays, whatever is called", x.fault(), 2);
    x.land();
    Due.is("fault 1", x.fault(), 1);
  }
}
