/** Promises 2 to 5 at their edges: what rows hold, of which lane, from where to where they are copied. */
public final class RowEdgesTest {
  private static final int BAD = Due.BAD;
  /** Road k goes from place k to k + 1, so that an item 0 to 6 can be told by where it begins. */
  private static final String CHAIN = "f1,8;h0,1,1;h1,2,1;h2,3,1;h3,4,1;h4,5,1;h5,6,1;h6,7,1;p0,0;";

  public static void main(String[] args) {
    rowSizes();
    rowInPlace();
    rowRefusalsInOrder();
    setLowestBits();
    setKeepsWhatItAnswers();
    setPlaces();
    setRefusalsInOrder();
    copyAsTheyWereAhead();
    copyAtTheEnds();
    copySumsThatRunOver();
    copyRefusalsInOrder();
    dropped();
    countOfRows();
    Due.end();
  }

  /** An item that is a road of CHAIN, else -1. */
  private static int item(FeetRoads x, int row, int i) {
    for (int road = 0; road <= 6; road++) {
      if (x.whose(row, i, 1, road) >= 0 && x.whose(row, i, 1, road + 1) >= 0) {
        return road;
      }
    }
    return -1;
  }

  private static void items(String what, FeetRoads x, int row, int... due) {
    for (int i = 0; i < due.length; i++) {
      Due.is(what + " [" + i + "]", item(x, row, i), due[i]);
    }
  }

  private static FeetRoads withRow(int lane, int... values) {
    FeetRoads x = Due.landOf(CHAIN);
    x.row(0, lane, values.length);
    for (int i = 0; i < values.length; i++) {
      x.set(0, i, values[i]);
    }
    return x;
  }

  private static void rowSizes() {
    for (int lane = 0; lane <= 2; lane++) {
      FeetRoads x = new FeetRoads();
      Due.is("row of 0", x.row(0, lane, 0), 0);
      Due.is("row of 0 is there", x.count(0), 1);
      Due.is("row of 0 has no first place", x.set(0, 0, 1), Due.PLACE);
      Due.is("row of 1", x.row(0, lane, 1), 1);
      Due.is("row of 1, its place", x.set(0, 0, 1), 1);
      Due.is("row of 1, no second place", x.set(0, 1, 1), Due.PLACE);
      Due.is("row of 40", x.row(0, lane, 40), 40);
      Due.is("row of 40, its last place", x.set(0, 39, 1), 1);
      Due.is("row of 40, no place more", x.set(0, 40, 1), Due.PLACE);
      Due.is("row of 41", x.row(0, lane, 41), BAD);
      Due.is("row of 40 stays", x.drop(0), 40);
    }
  }

  private static void rowInPlace() {
    FeetRoads x = withRow(2, 1, 2, 3);
    Due.is("row in place", x.row(0, 0, 5), 5);
    items("row in place: 0 at first", x, 0, 0, 0, 0, 0, 0);
    Due.is("row in place: its lane", x.set(0, 4, 200), -56);
    Due.is("row in place: its size", x.set(0, 5, 1), Due.PLACE);
    Due.is("row in place: still one row", x.count(0), 1);
    x = withRow(2, 1, 2, 3);
    x.drop(0);
    x.row(0, 2, 3);
    items("a row that was dropped: 0 at first", x, 0, 0, 0, 0);
    x = withRow(2, 1, 2, 3);
    x.row(0, 2, 1);
    x.row(0, 2, 3);
    items("a row made longer: 0 at first", x, 0, 0, 0, 0);
    x = withRow(1, 1, 2, 3);
    Due.is("row SIZE in place of one", x.row(0, 2, Due.LEAST), Due.SIZE);
    items("row SIZE: the row stays", x, 0, 1, 2, 3);
    Due.is("row SIZE: the lane stays", x.set(0, 0, 70000), 4464);
  }

  private static void rowRefusalsInOrder() {
    FeetRoads x = new FeetRoads();
    Due.all("row: BAD ahead of SIZE", BAD, x.row(-1, 0, -1), x.row(8, 0, -1), x.row(0, -1, -1), x.row(0, 3, -1),
        x.row(Due.LEAST, Due.LEAST, Due.LEAST), x.row(Due.LARGEST, Due.LARGEST, Due.LARGEST));
    Due.is("row: BAD makes none", x.count(0), 0);
    Due.is("row: SIZE of a missing one", x.row(0, 0, -1), Due.SIZE);
    Due.is("row: SIZE makes none", x.count(0), 0);
  }

  private static void bits(int lane, int v, int due) {
    FeetRoads x = new FeetRoads();
    x.row(0, lane, 1);
    Due.is("set of lane " + lane + ": " + v, x.set(0, 0, v), due);
  }

  private static void setLowestBits() {
    int[][] bytes = {{0, 0}, {127, 127}, {128, -128}, {255, -1}, {256, 0}, {-1, -1}, {-128, -128}, {-129, 127},
        {-256, 0}, {Due.LEAST, 0}, {Due.LARGEST, -1}};
    for (int[] b : bytes) {
      bits(0, b[0], b[1]);
    }
    int[][] shorts = {{128, 128}, {-129, -129}, {32767, 32767}, {32768, -32768}, {65535, -1}, {65536, 0}, {-1, -1},
        {-32768, -32768}, {-32769, 32767}, {Due.LEAST, 0}, {Due.LARGEST, -1}};
    for (int[] s : shorts) {
      bits(1, s[0], s[1]);
    }
    for (int v : new int[] {0, 32768, -32769, 65536, -1, Due.LEAST, Due.LARGEST}) {
      bits(2, v, v);
    }
  }

  private static void setKeepsWhatItAnswers() {
    items("bytes kept", withRow(0, 256 + 3, -256 + 6, 127, 128), 0, 3, 6, -1, -1);
    items("shorts kept", withRow(1, 65536 + 3, 256 + 3, -65536 + 6), 0, 3, -1, 6);
    items("ints kept", withRow(2, 65536 + 3, 3, 256 + 3), 0, -1, 3, -1);
  }

  private static void setPlaces() {
    FeetRoads x = withRow(0, 1, 2, 3);
    Due.is("set at the first place", x.set(0, 0, 4), 4);
    Due.is("set at the last place", x.set(0, 2, 5), 5);
    Due.all("set beside the places", Due.PLACE, x.set(0, -1, 6), x.set(0, 3, 6), x.set(0, Due.LEAST, 6),
        x.set(0, Due.LARGEST, 6));
    items("set there alone", x, 0, 4, 2, 5);
  }

  private static void setRefusalsInOrder() {
    FeetRoads x = new FeetRoads();
    Due.all("set: BAD ahead of all", BAD, x.set(-1, -1, 0), x.set(8, 0, 0), x.set(Due.LEAST, 0, 0),
        x.set(Due.LARGEST, Due.LARGEST, 0));
    Due.all("set: NULL ahead of PLACE", Due.NULL, x.set(0, -1, 0), x.set(7, 40, 0), x.set(7, Due.LEAST, 0));
  }

  private static void copyAsTheyWereAhead() {
    FeetRoads x = withRow(0, 0, 1, 2, 3, 4);
    Due.is("copy up within a row", x.copy(0, 0, 0, 1, 4), 4);
    items("copied up", x, 0, 0, 0, 1, 2, 3);
    x = withRow(1, 0, 1, 2, 3, 4);
    Due.is("copy down within a row", x.copy(0, 1, 0, 0, 4), 4);
    items("copied down", x, 0, 1, 2, 3, 4, 4);
    x = withRow(2, 0, 1, 2, 3, 4);
    Due.is("copy onto the same places", x.copy(0, 0, 0, 0, 5), 5);
    items("copied onto the same places", x, 0, 0, 1, 2, 3, 4);
    x = withRow(2, 4, 5, 6);
    x.row(7, 2, 4);
    Due.is("copy to another row", x.copy(0, 1, 7, 2, 2), 2);
    items("copied to another row", x, 7, 0, 0, 5, 6);
    items("copied from a row", x, 0, 4, 5, 6);
    x.set(0, 1, 1);
    Due.is("rows are no one row then", item(x, 7, 2), 5);
  }

  private static void copyAtTheEnds() {
    FeetRoads x = withRow(0, 1, 2, 3);
    x.row(1, 0, 0);
    x.row(2, 0, 40);
    x.row(3, 0, 40);
    Due.is("copy 40", x.copy(2, 0, 3, 0, 40), 40);
    Due.is("copy 41", x.copy(2, 0, 3, 0, 41), Due.PLACE);
    Due.is("copy 40 from 1 on", x.copy(2, 1, 3, 0, 40), Due.PLACE);
    Due.is("copy 40 to 1 on", x.copy(2, 0, 3, 1, 40), Due.PLACE);
    Due.is("copy the last one", x.copy(2, 39, 3, 39, 1), 1);
    Due.is("copy none", x.copy(0, 0, 0, 0, 0), 0);
    Due.is("copy none at both ends", x.copy(0, 3, 2, 40, 0), 0);
    Due.is("copy none of a row of 0", x.copy(1, 0, 1, 0, 0), 0);
    Due.is("copy one of a row of 0", x.copy(1, 0, 0, 0, 1), Due.PLACE);
    Due.is("copy one to a row of 0", x.copy(0, 0, 1, 0, 1), Due.PLACE);
    Due.all("copy none beyond an end", Due.PLACE, x.copy(0, 4, 0, 0, 0), x.copy(0, 0, 0, 4, 0), x.copy(1, 1, 1, 0, 0),
        x.copy(0, -1, 0, 0, 0), x.copy(0, 0, 0, -1, 0));
    Due.all("copy beyond an end", Due.PLACE, x.copy(0, 0, 2, 0, 4), x.copy(2, 0, 0, 0, 4), x.copy(0, 3, 2, 0, 1),
        x.copy(2, 0, 0, 3, 1), x.copy(0, 1, 2, 0, 3), x.copy(2, 0, 0, 1, 3), x.copy(0, 0, 0, 0, -1));
    items("what was found copied nothing", x, 0, 1, 2, 3);
  }

  private static void copySumsThatRunOver() {
    FeetRoads x = withRow(0, 1, 2, 3);
    int[] odd = {Due.LEAST, Due.LEAST + 1, -1, 1, 2, Due.LARGEST - 1, Due.LARGEST};
    for (int i : odd) {
      for (int n : new int[] {Due.LEAST, Due.LEAST + 3, -1, 4, Due.LARGEST - 2, Due.LARGEST}) {
        Due.is("copy from " + i + ", " + n, x.copy(0, i, 0, 0, n), Due.PLACE);
        Due.is("copy to " + i + ", " + n, x.copy(0, 0, 0, i, n), Due.PLACE);
        Due.is("copy from and to " + i + ", " + n, x.copy(0, i, 0, i, n), Due.PLACE);
      }
    }
    items("sums that run over copied nothing", x, 0, 1, 2, 3);
  }

  private static void copyRefusalsInOrder() {
    FeetRoads x = new FeetRoads();
    x.row(0, 0, 3);
    x.row(1, 1, 3);
    Due.all("copy: BAD ahead of all", BAD, x.copy(8, 0, 2, 0, 1), x.copy(2, 0, 8, 0, 1), x.copy(-1, -1, 0, -1, -1),
        x.copy(0, -1, -1, -1, -1), x.copy(Due.LEAST, 0, 0, 0, 0), x.copy(0, 0, Due.LARGEST, 0, 0));
    Due.all("copy: NULL ahead of PLACE", Due.NULL, x.copy(0, 0, 2, 0, 4), x.copy(2, -1, 0, 0, 1),
        x.copy(2, 0, 2, 0, -1), x.copy(2, 0, 3, 0, 0));
    Due.all("copy: STORE ahead of PLACE", Due.STORE, x.copy(0, 0, 1, 0, 4), x.copy(1, -1, 0, 0, 1),
        x.copy(0, 0, 1, 0, -1), x.copy(1, 0, 0, 3, 1));
    Due.is("copy: STORE of none", x.copy(0, 0, 1, 0, 0), Due.STORE);
    x.row(2, 2, 3);
    Due.all("copy: STORE of all pairs", Due.STORE, x.copy(0, 0, 2, 0, 1), x.copy(2, 0, 0, 0, 1), x.copy(1, 0, 2, 0, 1),
        x.copy(2, 0, 1, 0, 1), x.copy(0, 0, 1, 0, 1), x.copy(1, 0, 0, 0, 1));
  }

  private static void dropped() {
    FeetRoads x = new FeetRoads();
    x.row(0, 0, 0);
    x.row(7, 2, 40);
    Due.is("drop a row of 0", x.drop(0), 0);
    Due.is("drop a row of 40", x.drop(7), 40);
    Due.all("drop what is missing", Due.NULL, x.drop(0), x.drop(7), x.drop(3));
    Due.all("drop no ROW", BAD, x.drop(-1), x.drop(8), x.drop(Due.LEAST), x.drop(Due.LARGEST));
    Due.all("a dropped row is missing", Due.NULL, x.set(7, 0, 0), x.copy(7, 0, 7, 0, 0));
    Due.is("a dropped row comes anew", x.row(7, 0, 2), 2);
    Due.is("a dropped row comes anew, its lane", x.set(7, 1, 128), -128);
  }

  private static void countOfRows() {
    FeetRoads x = new FeetRoads();
    for (int row = 0; row <= 7; row++) {
      x.row(row, row % 3, row);
      Due.is("rows there", x.count(0), row + 1);
    }
    for (int row = 0; row <= 7; row++) {
      Due.is("drop " + row, x.drop(row), row);
      Due.is("rows left", x.count(0), 7 - row);
    }
  }
}
