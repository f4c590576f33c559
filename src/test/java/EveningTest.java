/** Promises 14, 15 and 29: EVENINGS told, and drawn by a SEED. */
public final class EveningTest {
  private static final Due due = new Due("EveningTest");

  public static void main(String[] args) {
    oneEvening();
    stops();
    taxes();
    stirred();
    drawnWithoutAnybody();
    drawnPerson();
    drawnShine();
    drawnEdges();
    due.end();
  }

  private static void oneEvening() {
    ReflectCensus c = Due.census("size 4 4;person 0 0 1;spoon 3 0 6 9 0;", "tax 3;",
        "count;go 0 4;count;go 0 0;stir 0;count;calm 0;turn 0 4;count;go 0 7;count;", "");
    due.is("STOP", c.stop(0, 0, 0), 9);
    // n: counts, SUM, SQUARE, TAXED, FACE, what it has, STIRRED, COUNT
    int[][] want = {
        {0, 1, 0, 0, 6, 0, 0, 1},
        {1, 1, 0, 3, 6, 1, 0, 1},
        {1, 0, 4, 3, 6, 1, 0, 0},
        {2, 0, 4, 3, 6, 1, 0, 0},
        {2, 1, 0, 3, 6, 1, 0, 1},
        {2, 0, 0, 3, 6, 1, 1, 0},
        {3, 0, 0, 3, 6, 1, 1, 0},
        {3, 1, 0, 3, 6, 1, 0, 1},
        {3, 0, 0, 3, 4, 1, 0, 0},
        {4, 0, 0, 3, 4, 1, 0, 0}};
    int[] whats = {0, 1, 10, 20, 30, 40, 50, 60};
    for (int n = 0; n < want.length; n++) {
      for (int w = 0; w < whats.length; w++) due.is("state(.., " + n + ", " + whats[w] + ")", c.state(0, 0, 0, n, whats[w]), want[n][w]);
    }
    for (int n : new int[] {-1, 10, 11, 12, Integer.MAX_VALUE, Integer.MIN_VALUE}) due.is("no state " + n, c.state(0, 0, 0, n, 0), -2);
    for (int w : new int[] {-1, 2, 9, 11, 18, 19, 21, 29, 31, 41, 51, 61, 69, 70, 80, Integer.MAX_VALUE, Integer.MIN_VALUE}) {
      due.is("another what " + w, c.state(0, 0, 0, 1, w), -2);
    }
    due.is("no parish", c.state(1, 0, 0, 0, 0), -2);
    due.is("no law", c.state(0, 1, 0, 0, 0), -2);
    due.is("no evening", c.state(0, 0, 1, 0, 0), -2);
    due.is("no parish", c.stop(1, 0, 0), -1);
    due.is("no law", c.stop(0, 1, 0), -1);
    due.is("no evening", c.stop(0, 0, 1), -1);
    due.is("no evening", c.stop(0, 0, -1), -1);
    due.is("nothing stays of it", c.parish(0, 50), 6);
    due.is("nothing stays of it", c.counted(0, 0, 0), 1);
  }

  private static void stop(String evening, int want) {
    String parish = "size 4 3;person 1 1 0;person 2 1 0;wall 1 0;pond 2 2 0 9 0;eye 0 2 0 1 1;";
    due.is("stop of " + evening, Due.census(parish, "", evening, "").stop(0, 0, 0), want);
  }

  private static void stops() {
    stop("", 0);
    stop("count;count;", 2);
    stop("go 0 0;", 0);
    stop("go 0 1;", 1);
    stop("go 0 2;", 0);
    stop("go 0 3;", 0);
    stop("go 0 4;", 1);
    stop("go 0 5;", 0);
    stop("go 0 6;go 0 6;", 1);
    stop("go 0 7;go 0 0;", 1);
    stop("go 1 2;go 1 2;", 1);
    stop("go 2 0;", 0);
    stop("go 7 0;", 0);
    stop("go 1 2;go 0 2;go 0 2;", 2);
    stop("turn 1 7;turn 1 7;turn 2 0;", 2);
    stop("turn 0 3;", 1);
    stop("stir 2;", 0);
    stop("calm 2;", 0);
    stop("calm 0;", 0);
    stop("stir 0;stir 0;", 1);
    stop("stir 0;calm 0;calm 0;", 2);
    stop("stir 0;stir 1;calm 1;calm 0;stir 1;", 5);
    stop("stir 1;turn 1 3;calm 1;", 3);
    stop("count;".repeat(40), 40);
  }

  private static void taxes() {
    // TAXED though the SIZE is too small and a twin is not counted, but not in SOUP
    ReflectCensus c = Due.census("size 3 3;person 0 0 1;person 1 0 1;person 2 0 2;pond 1 1 0 1 0;eye 0 1 0 9 0;", "tax 2;twins;cousins 1;", "count;count;", "");
    // the pond sees all three, the eye the first one
    for (int p = 0; p < 3; p++) due.is("TAXED " + p, c.state(0, 0, 0, 2, 20 + p), p == 0 ? 8 : 4);
    due.is("gained by SIZE 1", c.state(0, 0, 0, 2, 40), 2);
    Due.tell(c, 1, "tax 2;cousins 0;soup pond;");
    due.is("no TAX in SOUP", c.state(0, 1, 0, 2, 21), 0);
    due.is("TAX by the eye", c.state(0, 1, 0, 2, 20), 4);
    due.is("nothing by SOUP", c.state(0, 1, 0, 2, 40), 0);
    due.is("gained by the eye", c.state(0, 1, 0, 2, 41), 2);
    ReflectCensus e = Due.census("size 3 2;person 0 1 0;person 1 1 0;person 2 1 0;spoon 0 0 2 9 0;", "", "count;go 2 0;count;", "");
    for (int p = 0; p < 3; p++) due.is("TAXED where he went " + p, e.state(0, 0, 0, 3, 20 + p), p == 2 ? 1 : 0);
    due.is("tax 0", Due.census("size 2 2;person 0 0 0;pond 1 0 0 1 0;", "tax 0;", "count;", "").state(0, 0, 0, 1, 20), 0);
  }

  private static void stirred() {
    // the STIRRED one is still LOOKED at and in the way, but shows nobody
    ReflectCensus c = Due.census("size 5 2;spoon 0 0 2 9 0;spoon 2 0 2 9 0;person 4 0 0;", "cousins 1;", "count;stir 1;count;", "");
    due.is("SUM", c.state(0, 0, 0, 1, 1), 2);
    due.is("SUM stirred", c.state(0, 0, 0, 2, 1), 0);
    due.is("COUNT behind it", c.state(0, 0, 0, 2, 60), 0);
    due.is("gained", c.state(0, 0, 0, 3, 40), 1);
  }

  private static int[] lots(int seed, int n) {
    long x = seed & 0xffffffffL;
    int[] lots = new int[n];
    for (int k = 0; k < n; k++) {
      x = (x * 1103515245L + 12345L) % (1L << 32);
      lots[k] = (int) (x / 65536);
    }
    return lots;
  }

  private static void drawnWithoutAnybody() {
    ReflectCensus c = Due.census("", "");
    for (int seed : new int[] {0, 1, -1, 12345, Integer.MAX_VALUE, Integer.MIN_VALUE}) {
      int[] lots = lots(seed, 40);
      int counts = 0;
      for (int n = 0; n <= 40; n++) {
        due.is("counts by " + seed + " in " + n, c.drawn(0, 0, seed, n, 0), counts);
        if (n < 40 && lots[n] % 4 == 3) counts++;
      }
    }
  }

  private static void drawnPerson() {
    // in 8 by 8 from the middle no step of the first three leads out
    ReflectCensus c = Due.census("size 8 8;person 4 4 0;", "");
    int[] right = {0, 1, 1, 1, 0, -1, -1, -1};
    int[] down = {-1, -1, 0, 1, 1, 1, 0, -1};
    for (int seed = 0; seed < 60; seed++) {
      int[] lots = lots(seed, 9);
      int at = 36;
      int used = 0;
      for (int n = 0; n < 3; n++) {
        int lot = lots[used++] % 4;
        if (lot < 2) {
          used++; // which of one PERSON is drawn all the same
          int d = lots[used++] % 8;
          at += right[d] + 8 * down[d];
        }
        due.is("place by " + seed, c.drawn(0, 0, seed, n + 1, 10), at);
      }
    }
  }

  private static void drawnShine() {
    ReflectCensus c = Due.census("spoon 0 0 0 1 0;spoon 2 2 0 1 0;spoon 4 4 0 1 0;", "");
    for (int seed = -30; seed < 30; seed++) {
      int[] lots = lots(seed, 120);
      int[] face = new int[3];
      int used = 0;
      for (int n = 0; n < 40; n++) {
        int lot = lots[used++] % 4;
        if (lot == 2) {
          int s = lots[used++] % 3;
          face[s] = lots[used++] % 8;
        }
      }
      for (int s = 0; s < 3; s++) due.is("face by " + seed, c.drawn(0, 0, seed, 40, 30 + s), face[s]);
    }
  }

  private static void drawnEdges() {
    ReflectCensus c = Due.census("size 3 3;person 0 0 0;pond 2 2 3 1 0;", "tax 2;");
    due.is("n 0, SUM", c.drawn(0, 0, 5, 0, 1), 1);
    due.is("n 0, place", c.drawn(0, 0, 5, 0, 10), 0);
    due.is("n 0, TAXED", c.drawn(0, 0, 5, 0, 20), 0);
    due.is("n 0, FACE", c.drawn(0, 0, 5, 0, 30), 3);
    due.is("n 0, has", c.drawn(0, 0, 5, 0, 40), 0);
    due.is("n 0, COUNT", c.drawn(0, 0, 5, 0, 60), 1);
    for (int w : new int[] {-1, 2, 9, 11, 21, 31, 41, 50, 51, 59, 61, 70}) due.is("another what " + w, c.drawn(0, 0, 5, 3, w), -2);
    for (int n : new int[] {-1, 41, Integer.MAX_VALUE}) due.is("another n " + n, c.drawn(0, 0, 5, n, 0), -2);
    due.is("no parish", c.drawn(1, 0, 5, 1, 0), -2);
    due.is("no law", c.drawn(0, 1, 5, 1, 0), -2);
    // who can't go stays, and the evening goes on
    ReflectCensus d = Due.census("size 2 2;person 0 0 0;wall 1 0;wall 0 1;wall 1 1;", "");
    due.is("he stays", d.drawn(0, 0, 7, 40, 10), 0);
  }
}
