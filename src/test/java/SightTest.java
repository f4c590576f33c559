/** Promises 24 to 26: SIGHTS, which SETS of PEOPLE fit, WIND. */
public final class SightTest {
  private static final Due due = new Due("SightTest");

  /** The spoon sees the first who is there of three in a row; the eye sees the second and the third from below. */
  private static final String ROW = "size 5 2;spoon 0 0 2 9 0;person 1 0 1;person 2 0 1;person 3 0 2;";

  public static void main(String[] args) {
    told();
    hidden();
    slips();
    next();
    edges();
    wind();
    due.end();
  }

  private static void told() {
    ReflectCensus c = Due.census("", "", "", "told 0 3;told 0 4;told 7 9;slips 9;");
    due.is("SLIPS", c.sight(0, 0), 9);
    due.is("COUNT of 0", c.sight(0, 10), 4);
    due.is("COUNT of 1", c.sight(0, 11), -1);
    due.is("COUNT of 7", c.sight(0, 17), 9);
    due.is("another what", c.sight(0, 18), -2);
    due.is("another what", c.sight(0, 1), -2);
    due.is("none such", c.sight(1, 0), -2);
  }

  private static void fits(ReflectCensus c, int law, int[] sets, int sure, int none, int fewest) {
    due.is("how many", c.fits(0, law, 0, 0), sets.length);
    due.is("SURE", c.fits(0, law, 0, 1), sure);
    due.is("in none", c.fits(0, law, 0, 2), none);
    due.is("FALSE", c.fits(0, law, 0, 3), fewest);
    for (int k = 0; k < sets.length; k++) due.is("set " + k, c.fits(0, law, 0, 10 + k), sets[k]);
    due.is("no further set", c.fits(0, law, 0, 10 + sets.length), -2);
  }

  private static void hidden() {
    fits(Due.census(ROW, "", "", "told 0 1;"), 0, new int[] {1, 2, 3, 4, 5, 6, 7}, 0, 0, 0);
    fits(Due.census(ROW, "", "", "told 0 0;"), 0, new int[] {0}, 0, 7, 0);
    fits(Due.census(ROW, "", "", "told 0 9;"), 0, new int[] {}, -1, -1, 8);
    fits(Due.census(ROW, "", "", "told 5 9;"), 0, new int[] {0, 1, 2, 3, 4, 5, 6, 7}, 0, 0, 0);
    // a second spoon at the other end sees the last who is there; cousins: both see all
    String two = ROW + "spoon 4 0 6 9 0;";
    fits(Due.census(two, "", "", "told 0 1;told 1 1;"), 0, new int[] {1, 2, 3, 4, 5, 6, 7}, 0, 0, 0);
    fits(Due.census("size 3 2;pond 1 0 0 9 0;person 0 0 1;person 2 0 1;person 1 1 2;", "", "", "told 0 2;"), 0, new int[] {3, 5, 6}, 0, 0, 0);
    fits(Due.census("size 3 2;pond 1 0 0 9 0;person 0 0 1;person 2 0 1;person 1 1 2;", "twins;", "", "told 0 2;"), 0, new int[] {5, 6, 7}, 4, 0, 0);
    fits(Due.census("size 3 2;pond 1 0 0 1 0;person 0 0 1;person 2 0 1;person 1 1 2;", "", "", "told 0 2;slips 1;"), 0, new int[] {1, 2, 3, 4, 5, 6, 7}, 0, 0, 1);
    // whoever stands between two spoons hides the one from the other
    String between = "size 5 2;spoon 0 0 2 9 0;person 2 0 0;spoon 4 0 4 9 0;person 4 1 1;";
    fits(Due.census(between, "cousins 1;", "", "told 0 1;"), 0, new int[] {1, 2, 3}, 0, 0, 0);
    fits(Due.census(between, "cousins 1;", "", "told 0 1;told 1 0;"), 0, new int[] {1}, 1, 2, 0);
    fits(Due.census(between, "cousins 1;soup spoon;", "", "told 0 1;"), 0, new int[] {}, -1, -1, 1);
  }

  private static void slips() {
    String two = "size 5 2;spoon 0 0 4 9 0;person 0 1 0;spoon 4 0 4 9 0;person 4 1 1;";
    fits(Due.census(two, "", "", "told 0 2;told 1 2;slips 2;"), 0, new int[] {3}, 3, 0, 2);
    fits(Due.census(two, "", "", "told 0 2;told 1 2;slips 1;"), 0, new int[] {}, -1, -1, 2);
    fits(Due.census(two, "", "", "told 0 2;told 1 2;slips 3;"), 0, new int[] {1, 2, 3}, 0, 0, 2);
    fits(Due.census(two, "", "", "told 0 0;told 1 1;slips 1;"), 0, new int[] {0, 2, 3}, 0, 0, 0);
  }

  private static void next() {
    // the first tells nothing, the second splits 4 and 4, the third by how many of three: 1, 3, 3, 1
    String three = "size 8 3;wall 0 1;wall 1 0;wall 1 1;spoon 0 0 2 9 0;spoon 4 0 4 9 0;person 4 1 0;pond 4 2 0 9 0;person 3 1 1;person 5 1 2;";
    ReflectCensus c = Due.census(three, "", "", "");
    due.is("NEXT", c.fits(0, 0, 0, 4), 2);
    Due.tell(c, 1, "soup pond;");
    due.is("NEXT, SOUP", c.fits(0, 1, 0, 4), 1);
    Due.tell(c, 3, "told 1 1;told 2 3;");
    due.is("one SET: the least", c.fits(0, 0, 1, 4), 0);
    due.is("one SET", c.fits(0, 0, 1, 0), 1);
    due.is("nothing fits", c.fits(0, 1, 1, 4), -1);
    due.is("no shines", Due.census("person 0 0 0;", "").fits(0, 0, 0, 4), -1);
  }

  private static void edges() {
    ReflectCensus c = Due.census(ROW, "", "", "told 0 1;");
    for (int w : new int[] {-1, 5, 6, 9, 17, 1000, Integer.MAX_VALUE, Integer.MIN_VALUE}) due.is("another what " + w, c.fits(0, 0, 0, w), -2);
    ReflectCensus no = Due.census(ROW, "", "", "told 0 9;");
    for (int w : new int[] {-1, 5, 9, 10, Integer.MIN_VALUE}) due.is("another what, nothing fits " + w, no.fits(0, 0, 0, w), -2);
    due.is("no parish", c.fits(1, 0, 0, 0), -2);
    due.is("no law", c.fits(0, 1, 0, 0), -2);
    due.is("no sight", c.fits(0, 0, 1, 0), -2);
    due.is("no sight", c.fits(0, 0, -1, 0), -2);
    fits(Due.census("", "", "", "told 0 9;"), 0, new int[] {0}, 0, 0, 0);
    StringBuilder t = new StringBuilder("size 8 2;");
    for (int p = 0; p < 8; p++) t.append("person " + p + " 0 0;");
    ReflectCensus d = Due.census(t.toString(), "");
    due.is("all 256", d.fits(0, 0, 0, 0), 256);
    due.is("the last", d.fits(0, 0, 0, 265), 255);
    due.is("none behind it", d.fits(0, 0, 0, 266), -2);
    due.is("all is as told", d.square(0, 0), 10);
  }

  private static void winds(ReflectCensus c, int n, int over, int under) {
    due.is("over, by " + n, c.wind(0, 0, n, false), over);
    due.is("under, by " + n, c.wind(0, 0, n, true), under);
  }

  private static void wind() {
    // the pond sees two, the spoon one; by cousins there would be more
    String parish = "size 4 2;pond 1 0 0 9 0;person 0 0 0;person 1 1 1;spoon 2 0 4 9 0;person 2 1 2;";
    ReflectCensus c = Due.census(parish, "cousins 9;");
    // the pond sees 0, 1 and, slanting, 2
    winds(c, 1, 1, 1);
    winds(c, 2, 5, 2);
    winds(c, 3, 3, 1);
    winds(c, 4, 13, 4);
    winds(c, 9, 11, 3);
    due.is("another n", c.wind(0, 0, 0, false), -1);
    due.is("another n", c.wind(0, 0, 10, true), -1);
    due.is("another n", c.wind(0, 0, -1, true), -1);
    due.is("no parish", c.wind(1, 0, 1, true), -1);
    due.is("no law", c.wind(0, 1, 1, true), -1);
    // a pond and a spoon that looks at it: no cousins
    winds(Due.census("size 4 2;spoon 0 0 2 9 0;pond 1 0 0 9 0;person 2 0 0;", "cousins 9;"), 2, 1, 2);
    winds(Due.census(parish, "soup spoon;"), 1, 0, 1);
    winds(Due.census(parish, "soup pond;"), 5, 1, 1);
    winds(Due.census("", ""), 7, 0, 1);
    winds(Due.census("size 4 2;pond 1 0 0 1 0;person 0 0 0;person 1 1 0;", ""), 3, 2, 3);
    winds(Due.census("size 4 2;pond 1 0 0 9 0;person 0 0 0;person 1 1 0;", "twins;"), 3, 2, 3);
  }
}
