/** Promises 22 and 23: the enumerator's WAY and ROUND. */
public final class WalkTest {
  private static final Due due = new Due("WalkTest");

  public static void main(String[] args) {
    ways();
    rounds();
    hundred();
    due.end();
  }

  private static void ways() {
    ReflectCensus c = Due.census("size 3 3;wall 1 1;person 1 0 0;pond 0 1 0 1 0;", "");
    int[] want = {0, 1, 2, 1, -1, 3, 2, 3, 4};
    for (int q = 0; q < 9; q++) {
      due.is("way(0, 0, " + q + ")", c.way(0, 0, q), want[q]);
      due.is("way(0, " + q + ", 0)", c.way(0, q, 0), want[q]);
    }
    due.is("from and to a WALL", c.way(0, 4, 4), -1);
    for (int q : new int[] {-1, 9, Integer.MAX_VALUE, Integer.MIN_VALUE}) {
      due.is("no such SQUARE", c.way(0, 0, q), -1);
      due.is("no such SQUARE", c.way(0, q, 0), -1);
    }
    due.is("no such parish", c.way(1, 0, 0), -1);
    ReflectCensus d = Due.census("size 3 3;wall 1 0;wall 1 1;wall 1 2;", "");
    due.is("by none", d.way(0, 0, 2), -1);
    due.is("down", d.way(0, 2, 8), 2);
    due.is("not across a corner", Due.census("size 2 2;wall 1 0;wall 0 1;", "").way(0, 0, 3), -1);
    // a long one: up and down between walls
    ReflectCensus e = Due.census("size 8 8;wall 1 0;wall 1 1;wall 1 2;wall 1 3;wall 1 4;wall 1 5;wall 1 6;wall 3 1;wall 3 2;wall 3 3;wall 3 4;"
        + "wall 3 5;wall 3 6;wall 3 7;wall 5 0;wall 5 1;wall 5 2;wall 5 3;wall 5 4;wall 5 5;wall 5 6;", "");
    due.is("a long one", e.way(0, 0, 7), 35);
  }

  private static void rounds() {
    ReflectCensus c = Due.census("size 5 2;pond 0 0 0 1 0;eye 4 0 0 1 0;person 2 0 0;", "");
    due.is("fewest", c.round(0, 1, -1), 5);
    int[] want = {0, 1, 1, 1, 1, 2, 2};
    for (int t = 0; t < want.length; t++) due.is("in " + t, c.round(0, 1, t), want[t]);
    due.is("in 99", c.round(0, 1, 99), 2);
    due.is("from the one", c.round(0, 0, -1), 4);
    due.is("from the one, at once", c.round(0, 0, 0), 1);
    for (int t : new int[] {-2, 100, Integer.MAX_VALUE, Integer.MIN_VALUE}) due.is("another t", c.round(0, 1, t), -2);
    for (int q : new int[] {-1, 10}) due.is("no such SQUARE", c.round(0, q, -1), -2);
    due.is("no such parish", c.round(1, 0, -1), -2);
    ReflectCensus d = Due.census("size 5 2;pond 0 0 0 1 0;eye 4 0 0 1 0;wall 3 0;wall 4 1;", "");
    due.is("not onto all", d.round(0, 1, -1), -1);
    due.is("onto one", d.round(0, 1, 99), 1);
    due.is("from a WALL", d.round(0, 3, -1), -2);
    due.is("from a WALL", d.round(0, 3, 5), -2);
    ReflectCensus e = Due.census("wall 0 0;", "");
    due.is("no shines", e.round(0, 1, -1), 0);
    due.is("no shines", e.round(0, 1, 50), 0);
    // the nearest first is not the best: from 3 of 0 .. 7 with shines at 2, 5, 7: 1 + 5 = 6, and 2 + 2 + 5 the other way
    ReflectCensus f = Due.census("size 8 2;pond 2 0 0 1 0;pond 5 0 0 1 0;pond 7 0 0 1 0;", "");
    due.is("fewest of three", f.round(0, 3, -1), 6);
    due.is("in 4: the farther two", f.round(0, 3, 4), 2);
    due.is("in 3", f.round(0, 3, 3), 1);
    due.is("in 5", f.round(0, 3, 5), 2);
  }

  private static void hundred() {
    // eight of them at the corners and the middles of the sides of 7 by 7, from a corner: round the rim
    ReflectCensus c = Due.census("size 7 7;pond 0 0 0 1 0;pond 3 0 0 1 0;pond 6 0 0 1 0;pond 6 3 0 1 0;pond 6 6 0 1 0;pond 3 6 0 1 0;pond 0 6 0 1 0;pond 0 3 0 1 0;", "");
    due.is("round the rim", c.round(0, 0, -1), 21);
    for (int t = 0; t < 24; t++) due.is("in " + t, c.round(0, 0, t), Math.min(8, 1 + t / 3));
    due.is("from the middle", c.round(0, 24, -1), 24);
  }
}
