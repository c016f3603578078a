/** Counts answers that are not the ones that are due, and feeds texts to an object. */
final class Due {
  static final int NULL = -1000011, PLACE = -1000012, KIND = -1000013, SIZE = -1000014, STORE = -1000015;

  private static int wrong = 0;
  private static int asked = 0;

  private Due() {
  }

  static void is(String what, long got, long want) {
    asked++;
    if (got != want) {
      wrong++;
      System.out.println(what + " answered " + got + ", due is " + want);
    }
  }

  static void all(String what, long want, long... got) {
    for (int i = 0; i < got.length; i++) {
      is(what + " [" + i + "]", got[i], want);
    }
  }

  static FeetRoads fed(FeetRoads x, String text) {
    for (int i = 0; i < text.length(); i++) {
      x.feed(text.charAt(i));
    }
    return x;
  }

  /** A new object with the land of a text. */
  static FeetRoads landOf(String text) {
    FeetRoads x = fed(new FeetRoads(), text);
    int answer = x.land();
    if (answer < 0) {
      is("land of " + text, answer, 0);
    }
    return x;
  }

  static void end() {
    System.out.println(asked + " answers, " + wrong + " not as due");
    if (wrong != 0) {
      System.exit(1);
    }
  }
}
