import java.math.BigInteger;

/** The edges of EVENINGS, told and drawn: promises 14, 15 and 29, terms 3 and 5. */
public final class EdgeEveningTest {
  private static final Due due = new Due("EdgeEveningTest");
  private static final int[] RIGHT = {0, 1, 1, 1, 0, -1, -1, -1};
  private static final int[] DOWN = {-1, -1, 0, 1, 1, 1, 0, -1};

  public static void main(String[] args) {
    stepsOutOfEveryParish();
    stepsOntoThings();
    whoIsThere();
    stirAndCalm();
    everyStop();
    fortyDeeds();
    noDeeds();
    mostTaxes();
    whoIsTaxed();
    eachEveningBeginsAnew();
    lots();
    drawnOfAll();
    drawnWithout();
    drawnCounts();
    countsNowByCousins();
    countsNowBySize();
    due.end();
  }

  private static ReflectCensus evening(String parish, String law, String evening) { return Due.census(parish, law, evening, ""); }

  /** "goes to the SQUARE next to his in that DIRECTION", of which there is none beyond an end, nor in the next row. */
  private static void stepsOutOfEveryParish() {
    for (int wide = 2; wide <= 8; wide++) {
      for (int high = 2; high <= 8; high++) {
        for (int q = 0; q < wide * high; q++) {
          int x = q % wide;
          int y = q / wide;
          if (x > 0 && x < wide - 1 && y > 0 && y < high - 1 && (x + y) % 3 != 0) continue;
          for (int d = 0; d < 8; d++) {
            int toX = x + RIGHT[d];
            int toY = y + DOWN[d];
            boolean there = toX >= 0 && toX < wide && toY >= 0 && toY < high;
            ReflectCensus c = evening("size " + wide + " " + high + ";person " + x + " " + y + " 0;", "", "go 0 " + d + ";");
            due.is("STOP from " + q + " in " + d + " of " + wide + " by " + high, c.stop(0, 0, 0), there ? 1 : 0);
            due.is("before it", c.state(0, 0, 0, 0, 10), q);
            due.is("behind it", c.state(0, 0, 0, 1, 10), there ? wide * toY + toX : -2);
          }
        }
      }
    }
  }

  /** "if it is FREE": no WALL, no PERSON, no SHINE, STIRRED or not; the SQUARE that one left is. */
  private static void stepsOntoThings() {
    String row = "size 3 2;person 0 0 0;";
    String[] things = {"wall 1 0;", "person 1 0 0;", "pond 1 0 0 1 0;", "spoon 1 0 0 1 0;", "mirror 1 0 0 1 0;", "eye 1 0 0 1 0;"};
    for (String thing : things) {
      due.is("onto " + thing, evening(row + thing, "", "count;go 0 2;count;").stop(0, 0, 0), 1);
      due.is("past " + thing, evening(row + thing, "", "go 0 3;go 0 1;count;").stop(0, 0, 0), 3);
    }
    due.is("onto a STIRRED one", evening(row + things[2], "", "stir 0;go 0 2;").stop(0, 0, 0), 1);
    ReflectCensus c = evening(row + things[1], "", "go 1 2;go 0 2;go 1 3;");
    due.is("onto the SQUARE that one left", c.stop(0, 0, 0), 2);
    due.is("the one", c.state(0, 0, 0, 2, 10), 1);
    due.is("the other", c.state(0, 0, 0, 2, 11), 2);
    ReflectCensus back = evening(row, "", "go 0 2;go 0 6;go 0 2;go 0 2;go 0 2;");
    due.is("back and on, to the end", back.stop(0, 0, 0), 4);
    due.is("at the end", back.state(0, 0, 0, 4, 10), 2);
  }

  private static String people(int many) {
    StringBuilder t = new StringBuilder("size 8 8;");
    for (int k = 0; k < many; k++) t.append("person " + k + " 0 0;");
    return t.toString();
  }

  private static String shines(int many) {
    StringBuilder t = new StringBuilder();
    for (int k = 0; k < many; k++) t.append("spoon " + k + " 7 0 1 0;");
    return t.toString();
  }

  /** "A DEED can't be, if there is no such PERSON, SHINE": the last there is, and one more. */
  private static void whoIsThere() {
    for (int many = 0; many <= 8; many++) {
      for (int k = 0; k < 8; k++) {
        int want = k < many ? 1 : 0;
        String parish = people(many) + shines(many);
        due.is("go " + k + " of " + many, evening(parish, "", "go " + k + " 4;").stop(0, 0, 0), want);
        due.is("turn " + k + " of " + many, evening(parish, "", "turn " + k + " 4;").stop(0, 0, 0), want);
        due.is("stir " + k + " of " + many, evening(parish, "", "stir " + k + ";").stop(0, 0, 0), want);
        due.is("calm " + k + " of " + many, evening(parish, "", "stir " + k + ";calm " + k + ";").stop(0, 0, 0), 2 * want);
        ReflectCensus c = evening(parish, "", "");
        for (int row = 10; row < 70; row += 10) {
          int got = c.state(0, 0, 0, 0, row + k);
          due.is("state " + (row + k), got == -2, want == 0);
        }
      }
    }
    // PEOPLE and SHINES are counted each by themselves
    due.is("a PERSON 1 but no SHINE 1", evening(people(2) + shines(1), "", "go 1 4;turn 1 4;").stop(0, 0, 0), 1);
    due.is("a SHINE 1 but no PERSON 1", evening(people(1) + shines(2), "", "turn 1 4;go 1 4;").stop(0, 0, 0), 1);
    for (int face = 0; face < 8; face++) {
      ReflectCensus c = evening("spoon 2 2 " + face + " 1 0;", "", "turn 0 " + face + ";turn 0 " + (7 - face) + ";");
      due.is("turned to the FACE that it has", c.stop(0, 0, 0), 2);
      due.is("FACE at first", c.state(0, 0, 0, 0, 30), face);
      due.is("FACE then", c.state(0, 0, 0, 1, 30), face);
      due.is("FACE at last", c.state(0, 0, 0, 2, 30), 7 - face);
    }
  }

  /** "stir: a SHINE that is not STIRRED; calm: one that is." */
  private static void stirAndCalm() {
    String parish = "size 4 2;spoon 0 0 2 9 0;eye 3 0 6 9 0;person 3 1 0;person 1 0 0;";
    String[] evenings = {"calm 0;", "stir 0;stir 0;", "stir 0;calm 1;", "stir 0;calm 0;calm 0;", "stir 0;calm 0;stir 0;stir 0;", "stir 1;stir 0;calm 1;calm 0;calm 1;"};
    int[] stops = {0, 1, 1, 2, 3, 4};
    for (int k = 0; k < stops.length; k++) due.is(evenings[k], evening(parish, "", evenings[k]).stop(0, 0, 0), stops[k]);
    ReflectCensus c = evening(parish, "", "stir 0;stir 1;calm 0;calm 1;");
    int[][] want = {{0, 0, 2}, {1, 0, 1}, {1, 1, 0}, {0, 1, 1}, {0, 0, 2}};
    for (int n = 0; n <= 4; n++) {
      due.is("STIRRED 0", c.state(0, 0, 0, n, 50), want[n][0]);
      due.is("STIRRED 1", c.state(0, 0, 0, n, 51), want[n][1]);
      due.is("SUM", c.state(0, 0, 0, n, 1), want[n][2]);
    }
    // turned while STIRRED, it looks there when it is calm
    ReflectCensus t = evening("size 2 2;spoon 0 0 2 9 0;person 0 1 0;", "", "stir 0;turn 0 4;calm 0;");
    for (int n = 0; n <= 3; n++) due.is("COUNT behind " + n, t.state(0, 0, 0, n, 60), n == 3 ? 1 : 0);
    // one who goes before a STIRRED one is seen when it is calm, and not before
    ReflectCensus g = evening("size 3 2;spoon 0 0 2 9 0;person 2 1 0;", "", "stir 0;go 0 0;calm 0;");
    for (int n = 0; n <= 3; n++) due.is("COUNT behind " + n, g.state(0, 0, 0, n, 60), n == 3 ? 1 : 0);
    // a STIRRED one is in the way, LOOKED at, and shows nobody
    ReflectCensus s = evening("size 3 2;spoon 0 0 2 9 0;spoon 1 0 2 9 0;person 2 0 0;", "cousins 9;", "stir 1;count;calm 1;count;");
    int[] sums = {2, 0, 0, 2, 2};
    for (int n = 0; n <= 4; n++) due.is("SUM behind " + n, s.state(0, 0, 0, n, 1), sums[n]);
    due.is("has", s.state(0, 0, 0, 4, 40), 1);
    due.is("TAXED", s.state(0, 0, 0, 4, 20), 2);
  }

  /** "STOP: the first DEED that can't be, else how many there are"; "n up to STOP". */
  private static void everyStop() {
    for (int stop = 0; stop <= 39; stop++) {
      ReflectCensus c = evening("person 0 0 0;", "", "count;".repeat(stop) + "calm 0;" + "count;".repeat(39 - stop));
      due.is("STOP", c.stop(0, 0, 0), stop);
      due.is("up to STOP", c.state(0, 0, 0, stop, 0), stop);
      for (int n : new int[] {-1, stop + 1, stop + 2, 40, 41, Integer.MIN_VALUE, Integer.MAX_VALUE}) due.is("no STATE " + n, c.state(0, 0, 0, n, 0), -2);
      due.is("DEEDS behind it are told all the same", c.deed(0, -1, 0), 40);
    }
  }

  private static void fortyDeeds() {
    ReflectCensus c = evening("size 8 8;person 0 0 0;", "", ("go 0 2;".repeat(7) + "go 0 4;" + "go 0 6;".repeat(7) + "go 0 4;").repeat(2) + "go 0 2;".repeat(7) + "go 0 4;");
    due.is("STOP", c.stop(0, 0, 0), 40);
    due.is("in the middle", c.state(0, 0, 0, 20, 10), 20);
    due.is("behind 39", c.state(0, 0, 0, 39, 10), 39);
    due.is("behind 40", c.state(0, 0, 0, 40, 10), 47);
    due.is("no 41", c.state(0, 0, 0, 41, 10), -2);
    ReflectCensus t = evening("spoon 0 0 0 1 0;", "", "turn 0 1;turn 0 2;turn 0 3;turn 0 4;turn 0 5;turn 0 6;turn 0 7;turn 0 0;".repeat(5));
    for (int n = 0; n <= 40; n++) due.is("FACE behind " + n, t.state(0, 0, 0, n, 30), n % 8);
  }

  private static void noDeeds() {
    ReflectCensus c = evening("size 3 3;person 1 1 4;pond 0 0 5 1 0;", "", "");
    due.is("STOP", c.stop(0, 0, 0), 0);
    int[][] want = {{0, 0}, {1, 1}, {10, 4}, {20, 0}, {30, 5}, {40, 0}, {50, 0}, {60, 1}};
    for (int[] w : want) due.is("state at first, " + w[0], c.state(0, 0, 0, 0, w[0]), w[1]);
    due.is("no STATE 1", c.state(0, 0, 0, 1, 0), -2);
    ReflectCensus none = evening("", "", "count;");
    due.is("nobody and nothing", none.state(0, 0, 0, 1, 0), 1);
    due.is("SUM 0", none.state(0, 0, 0, 1, 1), 0);
    for (int w = 10; w < 70; w++) due.is("no what " + w, none.state(0, 0, 0, 1, w), -2);
  }

  /** As much as there can be: 40 counts, TAX 9, one in eight SHINES; eight in one. */
  private static void mostTaxes() {
    StringBuilder in = new StringBuilder("size 3 3;person 1 1 0;");
    StringBuilder round = new StringBuilder("size 3 3;pond 1 1 0 9 0;");
    for (int d = 0; d < 8; d++) {
      in.append("spoon " + (1 + RIGHT[d]) + " " + (1 + DOWN[d]) + " " + (d + 4) % 8 + " 9 0;");
      round.append("person " + (1 + RIGHT[d]) + " " + (1 + DOWN[d]) + " 0;");
    }
    for (int tax = 0; tax <= 9; tax++) {
      ReflectCensus c = evening(in.toString(), "tax " + tax + ";", "count;".repeat(40));
      due.is("TAXED at last", c.state(0, 0, 0, 40, 20), 40 * 8 * tax);
      due.is("TAXED once", c.state(0, 0, 0, 1, 20), 8 * tax);
      for (int s = 0; s < 8; s++) due.is("has", c.state(0, 0, 0, 40, 40 + s), 40);
      due.is("SUM is of now", c.state(0, 0, 0, 40, 1), 8);
    }
    ReflectCensus c = evening(round.toString(), "tax 9;", "count;".repeat(40));
    due.is("counted", c.state(0, 0, 0, 40, 0), 40);
    due.is("has", c.state(0, 0, 0, 40, 40), 320);
    for (int p = 0; p < 8; p++) due.is("TAXED", c.state(0, 0, 0, 40, 20 + p), 360);
  }

  /** "for each SHINE in which his DEGREE is COUSINS or less and whose KIND is no SOUP": SIZE and TWINS are no matter. */
  private static void whoIsTaxed() {
    for (int cousins = 0; cousins <= 3; cousins++) {
      String row = "size 5 2;spoon 0 0 2 1 0;eye 1 0 2 1 0;mirror 2 0 2 1 0;person 3 0 5;person 3 1 5;person 4 0 5;";
      ReflectCensus c = evening(row, "tax 2;twins;cousins " + cousins + ";", "count;");
      int near = Math.min(cousins, 2) + 1;
      due.is("in the row", c.state(0, 0, 0, 1, 20), 2 * near);
      due.is("slanting", c.state(0, 0, 0, 1, 21), 2 * near);
      due.is("hidden", c.state(0, 0, 0, 1, 22), 0);
      for (int s = 0; s < 3; s++) due.is("one of SIZE 1", c.state(0, 0, 0, 1, 40 + s), 2 - s <= cousins ? 1 : 0);
      Due.tell(c, 1, "tax 2;soup eye;cousins " + cousins + ";");
      due.is("not for SOUP", c.state(0, 1, 0, 1, 20), 2 * near - (cousins > 0 ? 2 : 0));
      due.is("SOUP has none", c.state(0, 1, 0, 1, 41), 0);
    }
  }

  /** "begins with all as told, none STIRRED, nothing counted", whatever was asked before. */
  private static void eachEveningBeginsAnew() {
    ReflectCensus c = evening("size 4 2;person 0 0 0;spoon 3 0 6 9 0;", "tax 5;", "count;go 0 4;turn 0 5;stir 0;count;");
    Due.tell(c, 2, "count;");
    for (int round = 0; round < 3; round++) {
      due.is("STOP", c.stop(0, 0, 0), 5);
      due.is("its SUM", c.state(0, 0, 0, 5, 1), 0);
      due.is("the other EVENING's SUM", c.state(0, 0, 1, 0, 1), 1);
      due.is("counted once", c.state(0, 0, 1, 1, 0), 1);
      due.is("has one", c.state(0, 0, 1, 1, 40), 1);
      due.is("TAXED once", c.state(0, 0, 1, 1, 20), 5);
      due.is("not STIRRED", c.state(0, 0, 1, 1, 50), 0);
      due.is("where he was", c.state(0, 0, 1, 1, 10), 0);
      due.is("as it was turned", c.state(0, 0, 1, 1, 30), 6);
      due.is("drawn from the beginning", c.drawn(0, 0, round, 0, 40), 0);
      due.is("as told", c.parish(0, 10), 0);
      due.is("as told", c.parish(0, 50), 6);
      due.is("as told", c.counted(0, 0, 0), 1);
    }
  }

  private static final BigInteger ROOM = BigInteger.ONE.shiftLeft(32);

  /** Lots by numbers without an end, cut to 32 bits: the document's x, another way than the machine's. */
  private static final class Lots {
    private BigInteger x;

    Lots(int seed) { x = BigInteger.valueOf(seed).mod(ROOM); }

    int below(int n) {
      x = x.multiply(BigInteger.valueOf(1103515245)).add(BigInteger.valueOf(12345)).mod(ROOM);
      return x.shiftRight(16).mod(BigInteger.valueOf(n)).intValueExact();
    }
  }

  private static final int[] SEEDS = {0, 1, 2, 3, -1, -2, 7, 12345, 65535, 65536, 1 << 30, 1103515245, -1103515245, 0x55555555, 0xaaaaaaaa,
      Integer.MAX_VALUE, Integer.MAX_VALUE - 1, Integer.MIN_VALUE, Integer.MIN_VALUE + 1};

  /** x wraps around; it is shifted without sign: no lot is ever below 0. */
  private static void lots() {
    for (int seed : SEEDS) {
      // all who are there can't go: what is drawn shows in the counts alone
      ReflectCensus c = Due.census("size 2 2;person 0 0 0;wall 1 0;wall 0 1;wall 1 1;", "");
      Lots lots = new Lots(seed);
      int counts = 0;
      for (int n = 0; n <= 40; n++) {
        due.is("counts by " + seed + " in " + n, c.drawn(0, 0, seed, n, 0), counts);
        due.is("he stays", c.drawn(0, 0, seed, n, 10), 0);
        int lot = lots.below(4);
        if (lot == 3) counts++;
        if (lot < 2) {
          lots.below(1);
          lots.below(8);
        }
      }
    }
  }

  /** PEOPLE and SHINES, from one of each to eight: who goes where, which is turned, by every number drawn. */
  private static void drawnOfAll() {
    for (int many = 1; many <= 8; many++) {
      StringBuilder t = new StringBuilder("size 8 8;");
      for (int k = 0; k < many; k++) t.append("person " + k + " " + (2 + k % 3) + " 0;");
      for (int k = 0; k < 9 - many; k++) t.append("spoon " + k + " 7 0 1 0;");
      for (int seed : SEEDS) {
        ReflectCensus c = Due.census(t.toString(), "");
        int[] x = new int[many];
        int[] y = new int[many];
        int[] face = new int[9 - many];
        for (int k = 0; k < many; k++) {
          x[k] = k;
          y[k] = 2 + k % 3;
        }
        Lots lots = new Lots(seed);
        for (int n = 0; n < 40; n++) {
          int lot = lots.below(4);
          if (lot == 2) face[lots.below(9 - many)] = lots.below(8);
          if (lot < 2) step(x, y, lots.below(many), lots.below(8), 9 - many);
        }
        for (int k = 0; k < many; k++) due.is("person " + k + " by " + seed, c.drawn(0, 0, seed, 40, 10 + k), 8 * y[k] + x[k]);
        for (int k = 0; k < 9 - many; k++) due.is("face " + k + " by " + seed, c.drawn(0, 0, seed, 40, 30 + k), face[k]);
      }
    }
  }

  private static void step(int[] x, int[] y, int who, int d, int shines) {
    int toX = x[who] + RIGHT[d];
    int toY = y[who] + DOWN[d];
    if (toX < 0 || toX > 7 || toY < 0 || toY > 7 || toY == 7 && toX < shines) return;
    for (int k = 0; k < x.length; k++) if (x[k] == toX && y[k] == toY) return;
    x[who] = toX;
    y[who] = toY;
  }

  /** "(Without such PEOPLE, SHINES the numbers are not drawn, nothing is.)" */
  private static void drawnWithout() {
    for (int seed : SEEDS) {
      ReflectCensus nobody = Due.census("spoon 3 3 0 1 0;spoon 4 4 0 1 0;", "");
      ReflectCensus nothing = Due.census("size 8 8;person 4 4 0;person 0 0 0;", "");
      ReflectCensus neither = Due.census("", "");
      Lots a = new Lots(seed);
      Lots b = new Lots(seed);
      Lots c = new Lots(seed);
      int[] face = new int[2];
      int[] x = {4, 0};
      int[] y = {4, 0};
      int[] counts = new int[3];
      for (int n = 0; n < 40; n++) {
        int lot = a.below(4);
        if (lot == 2) face[a.below(2)] = a.below(8);
        if (lot == 3) counts[0]++;
        lot = b.below(4);
        if (lot < 2) step(x, y, b.below(2), b.below(8), 0);
        if (lot == 3) counts[1]++;
        if (c.below(4) == 3) counts[2]++;
        due.is("counts without PEOPLE", nobody.drawn(0, 0, seed, n + 1, 0), counts[0]);
        due.is("counts without SHINES", nothing.drawn(0, 0, seed, n + 1, 0), counts[1]);
        due.is("counts without both", neither.drawn(0, 0, seed, n + 1, 0), counts[2]);
        for (int k = 0; k < 2; k++) {
          due.is("FACE", nobody.drawn(0, 0, seed, n + 1, 30 + k), face[k]);
          due.is("place", nothing.drawn(0, 0, seed, n + 1, 10 + k), 8 * y[k] + x[k]);
        }
      }
      for (int w = 10; w < 30; w++) due.is("no PERSON", nobody.drawn(0, 0, seed, 40, w), -2);
      for (int w = 30; w < 70; w++) due.is("no SHINE", nothing.drawn(0, 0, seed, 40, w), -2);
    }
  }

  /** What a PERSON is TAXED and a SHINE has by the counts drawn, where nobody can go and nothing turns away. */
  private static void drawnCounts() {
    String parish = "size 2 2;person 0 0 0;pond 1 0 0 9 0;pond 0 1 0 9 0;wall 1 1;";
    for (int seed : SEEDS) {
      ReflectCensus c = Due.census(parish, "tax 9;");
      for (int n : new int[] {0, 1, 39, 40}) {
        int counts = c.drawn(0, 0, seed, n, 0);
        due.is("TAXED", c.drawn(0, 0, seed, n, 20), 18 * counts);
        due.is("has", c.drawn(0, 0, seed, n, 40), counts);
        due.is("the other has", c.drawn(0, 0, seed, n, 41), counts);
        due.is("COUNT now", c.drawn(0, 0, seed, n, 60), 1);
        due.is("SUM now", c.drawn(0, 0, seed, n, 1), 2);
        for (int w = 50; w < 60; w++) due.is("no " + w, c.drawn(0, 0, seed, n, w), -2);
      }
      for (int n : new int[] {-1, 41}) due.is("another n", c.drawn(0, 0, seed, n, 0), -2);
    }
  }

  /** "60 + s: its COUNT now" is by COUSINS, whatever TAX is: in a row of seven SPOONS each looks at the next. */
  private static void countsNowByCousins() {
    StringBuilder row = new StringBuilder("size 8 2;person 7 0 0;");
    for (int s = 0; s < 7; s++) row.append("spoon " + s + " 0 2 9 0;");
    for (int cousins = 0; cousins <= 9; cousins++) {
      for (int tax = 0; tax <= 9; tax++) {
        ReflectCensus c = evening(row.toString(), "cousins " + cousins + ";tax " + tax + ";", "count;stir 3;");
        for (int s = 0; s < 7; s++) {
          int counted = 6 - s <= cousins ? 1 : 0;
          due.is("COUNT of " + s + " by " + cousins, c.state(0, 0, 0, 1, 60 + s), counted);
          due.is("the fourth is STIRRED", c.state(0, 0, 0, 2, 60 + s), s > 3 ? counted : 0);
          due.is("drawn", c.drawn(0, 0, 0, 0, 60 + s), counted);
        }
        due.is("SUM now", c.state(0, 0, 0, 1, 1), Math.min(7, cousins + 1));
        due.is("TAXED", c.state(0, 0, 0, 1, 20), tax * Math.min(7, cousins + 1));
      }
    }
  }

  /** "SIZE at most", of COUNTS now, of SUM now and of what a SHINE has by counts; TAXES know no SIZE. */
  private static void countsNowBySize() {
    for (int size = 1; size <= 9; size++) {
      StringBuilder t = new StringBuilder("size 3 3;pond 1 1 0 " + size + " 0;");
      for (int d = 0; d < 8; d++) t.append("person " + (1 + RIGHT[d]) + " " + (1 + DOWN[d]) + " " + d + ";");
      ReflectCensus c = evening(t.toString(), "", "count;count;");
      for (int n = 0; n <= 2; n++) {
        due.is("COUNT now", c.state(0, 0, 0, n, 60), Math.min(8, size));
        due.is("SUM now", c.state(0, 0, 0, n, 1), Math.min(8, size));
        due.is("by counts", c.state(0, 0, 0, n, 40), n * Math.min(8, size));
        for (int p = 0; p < 8; p++) due.is("TAXED", c.state(0, 0, 0, n, 20 + p), n);
      }
      due.is("drawn", c.drawn(0, 0, 0, 0, 60), Math.min(8, size));
    }
  }
}
