import java.util.List;

/** Counts answers that are not the ones that are due, and feeds texts to an object. */
final class Due {
  static final int NONE = FeetRoads.NONE, BAD = FeetRoads.BAD, STATE = FeetRoads.STATE, FULL = FeetRoads.FULL;
  static final int NULL = -1000011, PLACE = -1000012, KIND = -1000013, SIZE = -1000014, STORE = -1000015;

  static final int LEAST = Integer.MIN_VALUE, LARGEST = Integer.MAX_VALUE;

  /** Six places; lanes 0, 5, 6, a narrow one 1, an old one 2, a highway 3, a river 4; nobody gets to place 5. */
  static final String TOWN = "f3,6;l0,1,4;n1,2,3;o2,3,5;h3,4,2;r4,0,6;l2,0,9;l1,4,1;p0,97;p1,6;p4,0;";

  private static int wrong = 0;
  private static int asked = 0;

  private Due() {
  }

  static void is(String what, long got, long want) {
    asked++;
    if (got != want) {
      wrong++;
      System.out.println(what + " answered " + got + ", due is " + want);
    }
  }

  static void all(String what, long want, long... got) {
    for (int i = 0; i < got.length; i++) {
      is(what + " [" + i + "]", got[i], want);
    }
  }

  static void not(String what, long got, long never) {
    asked++;
    if (got == never) {
      wrong++;
      System.out.println(what + " answered " + got + ", which is not due");
    }
  }

  static void same(String what, List<Long> got, List<Long> want) {
    asked++;
    if (!got.equals(want)) {
      wrong++;
      System.out.println(what + " answered " + got + ", due is " + want);
    }
  }

  static FeetRoads fed(FeetRoads x, String text) {
    for (int i = 0; i < text.length(); i++) {
      x.feed(text.charAt(i));
    }
    return x;
  }

  /** A new object with the land of a text. */
  static FeetRoads landOf(String text) {
    FeetRoads x = fed(new FeetRoads(), text);
    int answer = x.land();
    if (answer < 0) {
      is("land of " + text, answer, 0);
    }
    return x;
  }

  static FeetRoads town() {
    return landOf(TOWN);
  }

  static String times(String text, int n) {
    StringBuilder all = new StringBuilder();
    for (int i = 0; i < n; i++) {
      all.append(text);
    }
    return all.toString();
  }

  static FeetRoads days(FeetRoads x, int number) {
    for (int k = 0; k < number; k++) {
      x.day();
    }
    return x;
  }

  static void end() {
    System.out.println(asked + " answers, " + wrong + " not as due");
    if (wrong != 0) {
      System.exit(1);
    }
  }
}
