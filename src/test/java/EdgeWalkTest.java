import java.util.ArrayList;
import java.util.List;

/** The edges of the enumerator's WAY and ROUND: promises 22 and 23. */
public final class EdgeWalkTest {
  private static final Due due = new Due("EdgeWalkTest");

  public static void main(String[] args) {
    everyWayInTheOpen();
    nothingIsInTheWayButWalls();
    wallsAndCorners();
    longestWay();
    noShines();
    oneShine();
    eightShines();
    notOntoAll();
    everyT();
    orders();
    due.end();
  }

  /** In a PARISH without WALLS: as many steps as columns and rows between, 0 to itself, up to 14. */
  private static void everyWayInTheOpen() {
    for (int wide = 2; wide <= 8; wide++) {
      for (int high = 2; high <= 8; high++) {
        String size = "size " + wide + " " + high + ";";
        int last = wide * high - 1;
        for (int from : new int[] {0, wide - 1, last / 2, last - wide + 1, last}) {
          ReflectCensus c = Due.census(size, "");
          for (int to = -1; to <= last + 1; to++) {
            int want = to < 0 || to > last ? -1 : Math.abs(from % wide - to % wide) + Math.abs(from / wide - to / wide);
            due.is(size + " from " + from + " to " + to, c.way(0, from, to), want);
            due.is(size + " from " + to + " to " + from, c.way(0, to, from), want);
          }
        }
      }
    }
  }

  /** "over SQUARES without WALLS": PEOPLE and SHINES are gone over, and gone from and to. */
  private static void nothingIsInTheWayButWalls() {
    ReflectCensus c = Due.census("size 5 2;person 1 0 0;pond 2 0 0 1 0;spoon 3 0 0 1 0;wall 0 1;wall 1 1;wall 2 1;wall 3 1;", "");
    for (int from = 0; from < 5; from++) for (int to = 0; to < 5; to++) due.is("along the top", c.way(0, from, to), Math.abs(from - to));
    due.is("to the one below", c.way(0, 0, 9), 5);
    for (int wall = 5; wall < 9; wall++) {
      due.is("to a WALL", c.way(0, 0, wall), -1);
      due.is("from a WALL", c.way(0, wall, 0), -1);
      due.is("on a WALL", c.way(0, wall, wall), -1);
      due.is("ROUND from a WALL", c.round(0, wall, -1), -2);
      due.is("ROUND from a WALL in 0", c.round(0, wall, 0), -2);
    }
    due.is("ROUND from a PERSON's", c.round(0, 1, -1), 2);
    due.is("ROUND from a SHINE's", c.round(0, 2, -1), 1);
  }

  /** "in DIRECTIONS 0, 2, 4, 6": not slanting between WALLS; "NONE: by none". */
  private static void wallsAndCorners() {
    ReflectCensus c = Due.census("size 3 3;wall 1 0;wall 0 1;pond 2 2 0 1 0;", "");
    due.is("shut in a corner", c.way(0, 0, 4), -1);
    due.is("shut out", c.way(0, 8, 0), -1);
    due.is("to itself", c.way(0, 0, 0), 0);
    due.is("not onto all", c.round(0, 0, -1), -1);
    for (int t : new int[] {0, 1, 99}) due.is("in " + t + " onto none", c.round(0, 0, t), 0);
    due.is("outside", c.round(0, 4, -1), 2);
    ReflectCensus slant = Due.census("size 2 2;wall 0 0;wall 1 1;", "");
    due.is("not slanting", slant.way(0, 1, 2), -1);
    ReflectCensus all = Due.census("size 2 2;wall 0 0;wall 1 0;wall 0 1;wall 1 1;", "");
    for (int q = 0; q < 4; q++) {
      due.is("all WALLS", all.way(0, q, q), -1);
      due.is("all WALLS", all.round(0, q, -1), -2);
      due.is("all WALLS", all.round(0, q, 5), -2);
    }
    // the row's end is no way to the next row
    ReflectCensus rows = Due.census("size 3 3;wall 0 1;wall 1 1;wall 2 1;", "");
    due.is("not round the end", rows.way(0, 2, 6), -1);
    due.is("not over the WALL", rows.way(0, 0, 8), -1);
  }

  /** Up and down between WALLS through all of 8 by 8: 35 steps. */
  private static final String SNAKE = snake();

  private static String snake() {
    StringBuilder t = new StringBuilder("size 8 8;");
    for (int x = 1; x < 8; x += 2) for (int y = 0; y < 8; y++) if (y != (x % 4 == 1 ? 7 : 0)) t.append("wall " + x + " " + y + ";");
    return t.toString();
  }

  private static void longestWay() {
    ReflectCensus c = Due.census(SNAKE, "");
    due.is("down the first", c.way(0, 0, 56), 7);
    due.is("and up the second", c.way(0, 0, 2), 16);
    due.is("and down the third", c.way(0, 0, 60), 25);
    due.is("and up the fourth", c.way(0, 0, 6), 34);
    due.is("and to the last nook", c.way(0, 0, 7), 35);
    due.is("or to its end", c.way(0, 6, 62), 7);
    ReflectCensus s = Due.census(SNAKE + "pond 0 0 0 1 0;pond 7 0 0 1 0;pond 6 7 0 1 0;", "");
    // from the middle, 60: 2 to 62, 10 to the last nook, and 35 back to the first; the other way 25 and 35
    due.is("both ends from the middle", s.round(0, 60, -1), 10 + 35);
    due.is("from an end", s.round(0, 0, -1), 35);
    due.is("from 62", s.round(0, 62, -1), 8 + 35);
    int[][] within = {{0, 0}, {1, 0}, {2, 1}, {9, 1}, {10, 2}, {44, 2}, {45, 3}, {99, 3}};
    for (int[] w : within) due.is("in " + w[0], s.round(0, 60, w[0]), w[1]);
  }

  /** Onto all of none he has come by no step. */
  private static void noShines() {
    ReflectCensus c = Due.census("size 2 2;person 0 0 0;wall 1 1;", "");
    for (int q = 0; q < 3; q++) {
      due.is("fewest", c.round(0, q, -1), 0);
      for (int t : new int[] {0, 1, 99}) due.is("in " + t, c.round(0, q, t), 0);
      for (int t : new int[] {-2, 100}) due.is("another t", c.round(0, q, t), -2);
    }
    due.is("a WALL", c.round(0, 3, -1), -2);
    due.is("no SQUARE", c.round(0, 4, -1), -2);
    due.is("no SQUARE", c.round(0, -1, -1), -2);
  }

  private static void oneShine() {
    for (int from : new int[] {0, 7, 56, 62, 63}) {
      ReflectCensus c = Due.census("size 8 8;pond 7 7 0 1 0;", "");
      int way = 14 - from % 8 - from / 8;
      due.is("fewest from " + from, c.round(0, from, -1), way);
      for (int t = 0; t <= 99; t++) due.is("from " + from + " in " + t, c.round(0, from, t), t >= way ? 1 : 0);
    }
  }

  /** "of all SHINES", eight of them: he is on the first with no step, and on the last with 7. */
  private static void eightShines() {
    StringBuilder row = new StringBuilder("size 8 2;");
    for (int k = 0; k < 8; k++) row.append("pond " + (k * 3) % 8 + " 0 0 1 0;");
    ReflectCensus c = Due.census(row.toString(), "");
    for (int from = 0; from < 8; from++) {
      int near = Math.min(from, 7 - from);
      due.is("fewest from " + from, c.round(0, from, -1), 7 + near);
      due.is("fewest from below " + from, c.round(0, 8 + from, -1), 8 + near);
      for (int t = 0; t <= 16; t++) {
        // straight to one end, or first a little back and then on
        int most = 0;
        for (int back = 0; back <= t; back++) {
          int left = Math.min(from, back) + Math.min(7 - from, Math.max(0, t - 2 * back)) + 1;
          int right = Math.min(7 - from, back) + Math.min(from, Math.max(0, t - 2 * back)) + 1;
          most = Math.max(most, Math.max(left, right));
        }
        due.is("from " + from + " in " + t, c.round(0, from, t), most);
      }
    }
  }

  /** "NONE: not onto all", though onto some. */
  private static void notOntoAll() {
    ReflectCensus c = Due.census("size 5 2;pond 0 0 0 1 0;pond 1 1 0 1 0;wall 2 0;wall 2 1;pond 3 0 0 1 0;pond 4 1 0 1 0;pond 4 0 0 1 0;", "");
    due.is("from the left", c.round(0, 0, -1), -1);
    due.is("from the right", c.round(0, 9, -1), -1);
    int[] left = {1, 1, 2, 2};
    int[] right = {1, 2, 3, 3};
    for (int t = 0; t < 4; t++) {
      due.is("left, in " + t, c.round(0, 0, t), left[t]);
      due.is("right, in " + t, c.round(0, 9, t), right[t]);
    }
    due.is("left, in 99", c.round(0, 0, 99), 2);
    due.is("right, in 99", c.round(0, 9, 99), 3);
  }

  /** "in t steps, 0 .. 99": never fewer in more, and all from the fewest on. */
  private static void everyT() {
    ReflectCensus c = Due.census("size 8 8;pond 0 0 0 1 0;pond 7 0 0 1 0;pond 0 7 0 1 0;pond 7 7 0 1 0;eye 3 3 0 1 0;eye 4 4 0 1 0;", "");
    for (int from : new int[] {0, 28, 63}) {
      int fewest = c.round(0, from, -1);
      int before = 0;
      for (int t = 0; t <= 99; t++) {
        int got = c.round(0, from, t);
        due.is("never fewer in more", got >= before, true);
        due.is("all from the fewest on, " + t, got == 6, t >= fewest);
        before = got;
      }
    }
    ReflectCensus d = Due.census("size 8 8;pond 0 0 0 1 0;", "");
    for (int t : new int[] {-2, -3, 100, 101, 1000, Integer.MIN_VALUE, Integer.MAX_VALUE}) due.is("another t " + t, d.round(0, 0, t), -2);
  }

  /** By all orders of SHINES, their ways one behind the other. */
  private static void orders() {
    String[] parishes = {SNAKE + "pond 0 3 0 1 0;pond 2 5 0 1 0;pond 4 1 0 1 0;pond 6 7 0 1 0;pond 3 0 0 1 0;",
        "size 6 6;wall 2 0;wall 2 1;wall 2 2;wall 2 4;wall 4 5;wall 4 4;wall 4 3;pond 0 0 0 1 0;eye 3 0 0 1 0;eye 5 5 0 1 0;eye 3 5 0 1 0;eye 0 5 0 1 0;"};
    for (String parish : parishes) {
      ReflectCensus c = Due.census(parish, "");
      for (int from = 0; from < c.parish(0, 0) * c.parish(0, 1); from += 5) {
        if (c.square(0, from) == 1) continue;
        List<int[]> ends = new ArrayList<>();
        walkOn(ways(parish, from), 5, 0, 0, ends);
        int fewest = 1000;
        for (int[] e : ends) if (e[0] == 31) fewest = Math.min(fewest, e[1]);
        due.is("fewest from " + from, c.round(0, from, -1), fewest);
        for (int t : new int[] {0, 3, 8, 15, 30}) {
          int most = 0;
          for (int[] e : ends) if (e[1] <= t) most = Math.max(most, Integer.bitCount(e[0]));
          due.is("from " + from + " in " + t, c.round(0, from, t), most);
        }
      }
    }
  }

  /** From each of five SHINES, and from where he begins, to each SHINE. */
  private static int[][] ways(String parish, int from) {
    ReflectCensus c = Due.census(parish, "");
    int[][] ways = new int[6][5];
    for (int k = 0; k < 6; k++) for (int s = 0; s < 5; s++) ways[k][s] = c.way(0, k < 5 ? c.parish(0, 40 + k) : from, c.parish(0, 40 + s));
    return ways;
  }

  private static void walkOn(int[][] ways, int at, int set, int steps, List<int[]> ends) {
    ends.add(new int[] {set, steps});
    for (int s = 0; s < 5; s++) if ((set >> s & 1) == 0) walkOn(ways, s, set | 1 << s, steps + ways[at][s], ends);
  }
}
