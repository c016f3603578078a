import java.io.IOException;
import java.util.ArrayList;
import java.util.List;

/** The document from its first word to its last: each sentence is said, and what it asks for is asked of the class. */
public final class DocumentTest {
  private static final int NONE = Due.NONE, BAD = Due.BAD, STATE = Due.STATE, FULL = Due.FULL;

  public static void main(String[] args) throws IOException {
    netOfRoads();
    actsAndForetold();
    calls512();
    constants();
    faceOfRowsAndLands();
    faceOfForetoldAndAsked();
    numbers();
    refusals();
    findings();
    changesNothing();
    DocumentTerms.check();
    DocumentPromises.check();
    Document.end();
    Due.end();
  }

  private static void netOfRoads() {
    Document.says("# FeetRoads");
    Due.is("its name, without a package", FeetRoads.class.getName().equals("FeetRoads") ? 1 : 0, 1);
    Document.says("## What it is");
    Document.says("Roads that know their feet: a net of places and roads that open to soles they have met lately,");
    FeetRoads x = Document.mill();
    Due.is("a road opens to soles it has met", x.road(0, 3), 1 + 2);
    Due.is("and not to others", x.road(1, 3), 1);
    Due.days(x, 3);
    Due.is("lately, not long ago", x.road(0, 3), 0);
    Document.says("lanes, narrow ones, old ones, highways, a river for pennies, people with soles, told in a text;");
    x = Document.mill();
    int[] kinds = {1, 2, 3, 4, 5, 1};
    for (int road = 0; road < kinds.length; road++) {
      Due.is("kind " + road, x.kind(road), kinds[road]);
    }
    Due.is("people with soles", x.person(0, 1) * 100 + x.person(1, 1) * 10 + x.person(2, 1), 12);
    x.walk(2, 4);
    Due.is("a river for pennies", x.count(6), 5);
  }

  private static void actsAndForetold() {
    Document.says("walks, one led by another, soles changed, heels new, days;");
    FeetRoads x = Document.mill();
    Due.is("a walk", x.walk(0, 0), 1);
    Due.is("one led by another", x.lead(0, 1, 1), 2);
    Due.is("soles changed", x.change(0, 1), 1);
    Due.is("heels new", x.heels(0), 3);
    Due.is("days", x.day(), 1);
    Document.says("who can get where, how far, led by whom, the fewest roads to be introduced to;");
    x = Document.mill();
    Due.is("who can get where", x.reach(2), 1 + 8 + 16);
    Due.is("how far", x.way(0, 4), 2 + 3 + 4 + 5);
    Due.is("led by whom", x.led(2, 0, 1) * 100 + x.led(2, 1, 1), 711);
    Due.is("to be introduced to", x.introduced(2, 1, 0), 1);
    Document.says("when a road forgets, which roads will know nobody, a round that keeps all alive;");
    Due.is("when a road forgets", x.forgets(), 3);
    Due.is("which will know nobody", x.nobody(3), 1 + 2 + 32);
    Due.is("a round", x.round(0), 2 + 3 + 4 + 9);
    Document.says("the fewest bars against one; where two can meet; whose soles went over told roads;");
    Due.is("the fewest bars", x.bars(0, 3, 0), 2);
    Due.is("where two can meet", x.meet(0, 1, 0), 0);
    Due.is("whose soles", Document.millWithRow(0, 1, 2, 3).whose(0, 0, 4, 0), 1);
    Document.says("how likely one gets there in snow; walks undone, images.");
    Due.is("in snow", x.snow(0, 3, 5, 0) * 100 + x.snow(0, 3, 5, 1), 916);
    x.image(0);
    x.walk(0, 0);
    Due.is("a walk undone", x.undo(), 0);
    Due.is("an image", x.restore(0), 1);
  }

  private static void calls512() {
    Document.says("An object is used for at most 512 calls after it has been made; what later calls answer is free.");
    FeetRoads x = Document.mill();
    int calls = Document.MILL.length() + 1;
    for (; calls < 510; calls++) {
      x.day();
    }
    Due.is("call 511", x.count(5), 510 - Document.MILL.length() - 1);
    Due.is("call 512", x.undo(), 23);
  }

  private static void constants() {
    Document.says("## The public face ```java public final class FeetRoads {");
    Document.says("public static final int NONE = -1000000, BAD = -1000001, STATE = -1000002, FULL = -1000003;");
    Due.is("NONE", FeetRoads.NONE, -1000000);
    Due.is("BAD", FeetRoads.BAD, -1000001);
    Due.is("STATE", FeetRoads.STATE, -1000002);
    Due.is("FULL", FeetRoads.FULL, -1000003);
    Document.says("public FeetRoads();");
    Due.is("a new object", new FeetRoads().status(), 0);
  }

  private static void faceOfRowsAndLands() {
    Document.face("public int row(int row, int lane, int n);");
    Document.face("public int set(int row, int i, int v);");
    Document.face("public int copy(int a, int i, int b, int j, int n);");
    Document.face("public int drop(int row);");
    Document.face("public int feed(int letter);");
    Document.face("public int land();");
    Document.face("public int fault();");
    Document.face("public int walk(int person, int road);");
    Document.face("public int lead(int person, int other, int road);");
    Document.face("public int change(int person, int other);");
    Document.face("public int heels(int person);");
    Document.face("public int day();");
    Document.face("public int undo();");
    Document.face("public int person(int person, int what);");
    Document.face("public int road(int road, int what);");
    Document.face("public int met(int road, int sole, int what);");
  }

  private static void faceOfForetoldAndAsked() {
    Document.face("public int reach(int person);");
    Document.face("public int way(int person, int place);");
    Document.face("public int led(int person, int other, int place);");
    Document.face("public int introduced(int person, int place, int what);");
    Document.face("public int forgets();");
    Document.face("public int nobody(int d);");
    Document.face("public int round(int person);");
    Document.face("public int bars(int person, int place, int what);");
    Document.face("public int meet(int person, int other, int what);");
    Document.face("public int whose(int row, int i, int n, int place);");
    Document.face("public long snow(int person, int place, int c, int what);");
    Document.face("public int image(int k);");
    Document.face("public int restore(int k);");
    Document.face("public int kind(int road);");
    Document.face("public int as(int road, int kind);");
    Document.face("public int ask(int road, int what);");
    Document.face("public int trace(int i);");
    Document.face("public int count(int what);");
    Document.face("public int status();");
    Document.says("} ```");
  }

  private static void numbers() {
    Document.says("## Terms");
    Document.says("Numbers go from 0 on.");
    FeetRoads x = Document.mill();
    Due.is("one 0, place 0, sole 0, road 0", x.person(0, 0) + x.person(0, 1) + x.road(0, 0), 0);
    Due.all("no one 3, place 5, sole 3, road 6", BAD, x.person(3, 0), x.way(0, 5), x.met(0, 3, 0), x.road(6, 0));
    Document.says("All that is divided is cut towards 0, but fractions,");
    Document.says("told as two numbers in lowest terms (0 is 0 by 1).");
    for (int place = 0; place <= 4; place++) {
      for (int c = 0; c <= 10; c++) {
        long above = x.snow(0, place, c, 0), below = x.snow(0, place, c, 1);
        boolean lowest = above >= 0 && above <= below && divisor(above, below) == 1;
        Due.is("lowest terms of " + above + " by " + below, lowest ? 1 : 0, 1);
      }
    }
    Due.is("0 is 0 by 1", x.snow(2, 1, 3, 0) * 10 + x.snow(2, 1, 3, 1), 1);
    Document.says("Sets are bits.");
    Due.is("roads 0, 3, 4, 5", x.person(1, 2), 1 + 8 + 16 + 32);
    Due.is("soles 0, 1", x.road(0, 3), 1 + 2);
    Due.is("places 0, 3, 4", x.reach(2), 1 + 8 + 16);
  }

  private static long divisor(long a, long b) {
    return b == 0 ? a : divisor(b, a % b);
  }

  private static FeetRoads fullTape() {
    return Due.fed(Document.mill(), Due.times("f", 120));
  }

  private static void refusals() {
    Document.says("Refusals are answers, the first of these that fits, but as told:");
    FeetRoads x = new FeetRoads();
    Due.is("BAD ahead of STATE", x.image(2), BAD);
    Due.is("BAD ahead of STATE, restore", x.restore(2), BAD);
    Due.is("but as told: STATE ahead of BAD", x.nobody(100), STATE);
    Due.is("but as told: STATE ahead of BAD, whose", x.whose(8, 0, 0, 0), STATE);
    Due.is("BAD ahead of FULL", fullTape().feed(256), BAD);
    Due.is("BAD ahead of SIZE", x.row(8, 0, -1), BAD);
    Document.says("BAD (a number is not as told; there is no such thing),");
    Due.all("a number is not as told", BAD, x.feed(256), x.count(9), Document.mill().snow(0, 0, 11, 0));
    Due.all("there is no such thing", BAD, x.walk(0, 0), x.kind(0), Document.mill().heels(3));
    Document.says("STATE (as told),");
    Due.all("STATE", STATE, x.day(), x.undo(), Document.mill().walk(2, 0), Document.mill().restore(0));
    Document.says("FULL (as told),");
    Due.is("FULL", fullTape().feed(0), FULL);
  }

  private static void findings() {
    Document.says("then FINDINGS, of several the first in time:");
    FeetRoads x = Document.millWithRow(0, 1);
    x.row(1, 1, 2);
    Due.is("NULL, though the place is none too", x.set(7, 9, 0), Due.NULL);
    Due.is("STORE, though the place is none too", x.copy(0, 9, 1, 0, 1), Due.STORE);
    Due.is("NULL, though the other is there", x.copy(0, 9, 7, 0, 1), Due.NULL);
    Document.says("-1000010 less 1 NULL (a ROW that is missing),");
    Due.is("NULL", x.drop(7), -1000010 - 1);
    Document.says("2 PLACE (no such place of a ROW),");
    Due.is("PLACE", x.set(0, 2, 0), -1000010 - 2);
    Document.says("3 KIND (a ROAD that is not that),");
    Due.is("KIND", x.as(0, 4), -1000010 - 3);
    Document.says("4 SIZE (fewer than none),");
    Due.is("SIZE", x.row(0, 0, -1), -1000010 - 4);
    Document.says("5 STORE (ROWS of two LANES).");
    Due.is("STORE", x.copy(0, 0, 1, 0, 1), -1000010 - 5);
  }

  private interface Call {
    long of(FeetRoads x);
  }

  private static void changesNothing() {
    Document.says("What is refused, or found, changes nothing but status().");
    List<Call> refused = new ArrayList<>(List.of(x -> x.row(0, 3, 1), x -> x.set(8, 0, 0), x -> x.copy(0, 0, 8, 0, 1),
        x -> x.drop(-1), x -> x.feed(-1), x -> x.walk(3, 0), x -> x.walk(2, 3), x -> x.lead(0, 0, 0),
        x -> x.lead(0, 2, 0), x -> x.change(0, 0), x -> x.heels(-1), x -> x.person(0, 3), x -> x.road(0, 4),
        x -> x.met(0, 0, 2), x -> x.reach(3), x -> x.way(0, 6), x -> x.led(0, 0, 0), x -> x.introduced(0, 0, 2),
        x -> x.nobody(100), x -> x.round(3), x -> x.bars(0, 0, 2), x -> x.meet(0, 0, 0), x -> x.whose(0, 0, 17, 0)));
    refused.addAll(List.of(x -> x.snow(0, 0, 11, 0), x -> x.image(2), x -> x.restore(2), x -> x.restore(1),
        x -> x.kind(7), x -> x.as(0, 6), x -> x.ask(0, 2), x -> x.count(9), x -> x.row(0, 0, -1), x -> x.set(7, 0, 0),
        x -> x.set(0, 20, 0), x -> x.copy(0, 0, 1, 0, 1), x -> x.copy(0, 0, 3, 4, 1), x -> x.drop(7),
        x -> x.whose(7, 0, 0, 0), x -> x.whose(0, 20, 1, 0), x -> x.whose(1, 0, 1, 0), x -> x.as(0, 5)));
    for (int k = 0; k < refused.size(); k++) {
      Call call = refused.get(k);
      boolean isRefused = call.of(Twins.busy()) < NONE;
      Due.is("call " + k + " is refused, or found", isRefused ? 1 : 0, 1);
      Twins.unchanged("call " + k, Twins::busy, x -> call.of(x));
    }
  }
}
