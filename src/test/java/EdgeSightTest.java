/** The edges of SIGHTS, of who was there, and of WIND: promises 24 to 26. */
public final class EdgeSightTest {
  private static final Due due = new Due("EdgeSightTest");
  private static final int[] RIGHT = {0, 1, 1, 1, 0, -1, -1, -1};
  private static final int[] DOWN = {-1, -1, 0, 1, 1, 1, 0, -1};

  public static void main(String[] args) {
    toldOfEach();
    everySet();
    everySlip();
    nobody();
    noShines();
    shinesThatAreNotThere();
    sureAndNone();
    nothingFits();
    theWay();
    falseOfMany();
    nexts();
    winds();
    windsOfNone();
    mostWind();
    windsByKind();
    fitsByCousins();
    due.end();
  }

  private static ReflectCensus seen(String parish, String law, String sight) { return Due.census(parish, law, "", sight); }

  /** "of each SHINE, 0 to 7, a COUNT that was told, 0 .. 9, or none (at first); SLIPS, 0 .. 9 (0 at first)". */
  private static void toldOfEach() {
    for (int shine = 0; shine < 8; shine++) {
      for (int count = 0; count <= 9; count++) {
        ReflectCensus c = seen("", "", "told " + shine + " " + count + ";");
        for (int s = 0; s < 8; s++) due.is("told of " + s, c.sight(0, 10 + s), s == shine ? count : -1);
        due.is("no SLIPS", c.sight(0, 0), 0);
        for (int w : new int[] {-1, 1, 9, 18, 19, 20}) due.is("another what " + w, c.sight(0, w), -2);
      }
    }
    for (int slips = 0; slips <= 9; slips++) due.is("SLIPS", seen("", "", "slips " + slips + ";").sight(0, 0), slips);
  }

  /** A POND with so many round it: SETS are 0 to 2 to the number of PEOPLE, less one. */
  private static String round(int many, int size) {
    StringBuilder t = new StringBuilder("size 3 3;pond 1 1 0 " + size + " 0;");
    for (int d = 0; d < many; d++) t.append("person " + (1 + RIGHT[d]) + " " + (1 + DOWN[d]) + " " + d + ";");
    return t.toString();
  }

  /** "how many; the k-th, numbers rising": none told of, all 256 and no more. */
  private static void everySet() {
    for (int many = 0; many <= 8; many++) {
      ReflectCensus c = seen(round(many, 9), "", "");
      int all = 1 << many;
      due.is("how many of " + many, c.fits(0, 0, 0, 0), all);
      for (int k = 0; k < all; k++) due.is("the k-th", c.fits(0, 0, 0, 10 + k), k);
      for (int k : new int[] {all, all + 1, 256, 257, 1000}) due.is("none behind the last", c.fits(0, 0, 0, 10 + k), -2);
      due.is("SURE", c.fits(0, 0, 0, 1), 0);
      due.is("in none", c.fits(0, 0, 0, 2), 0);
      due.is("FALSE", c.fits(0, 0, 0, 3), 0);
      due.is("NEXT", c.fits(0, 0, 0, 4), 0);
      for (int w : new int[] {-1, 5, 6, 7, 8, 9}) due.is("another what", c.fits(0, 0, 0, w), -2);
    }
    for (int many = 0; many <= 8; many++) {
      for (int told = 0; told <= 9; told++) {
        ReflectCensus c = seen(round(many, 9), "", "told 0 " + told + ";");
        int found = 0;
        for (int set = 0; set < 1 << many; set++) {
          if (Integer.bitCount(set) != told) continue;
          due.is("the k-th of " + told, c.fits(0, 0, 0, 10 + found), set);
          found++;
        }
        due.is("how many of " + told, c.fits(0, 0, 0, 0), found);
        due.is("none behind the last", c.fits(0, 0, 0, 10 + found), -2);
        due.is("SURE", c.fits(0, 0, 0, 1), found == 0 ? -1 : told == many ? (1 << many) - 1 : 0);
        due.is("in none", c.fits(0, 0, 0, 2), found == 0 ? -1 : told == 0 ? (1 << many) - 1 : 0);
        due.is("FALSE", c.fits(0, 0, 0, 3), Math.max(0, told - many));
      }
    }
  }

  /** "together, are SLIPS or less": as many as SLIPS, and one more. */
  private static void everySlip() {
    for (int slips = 0; slips <= 9; slips++) {
      for (int told = 0; told <= 9; told++) {
        ReflectCensus c = seen(round(8, 9), "", "slips " + slips + ";told 0 " + told + ";");
        int fit = 0;
        for (int set = 0; set < 256; set++) if (Math.abs(Integer.bitCount(set) - told) <= slips) fit++;
        due.is("told " + told + ", SLIPS " + slips, c.fits(0, 0, 0, 0), fit);
        due.is("FALSE, whatever SLIPS are", c.fits(0, 0, 0, 3), told == 9 ? 1 : 0);
        // two that see one each: their differences come together
        ReflectCensus d = seen("size 3 2;spoon 0 0 4 9 0;spoon 2 0 4 9 0;person 0 1 0;person 2 1 0;", "", "told 0 " + told + ";told 1 " + told + ";slips " + slips + ";");
        fit = 0;
        for (int set = 0; set < 4; set++) if (Math.abs(told - (set & 1)) + Math.abs(told - (set >> 1)) <= slips) fit++;
        due.is("two told " + told + ", SLIPS " + slips, d.fits(0, 0, 0, 0), fit);
        due.is("FALSE of two", d.fits(0, 0, 0, 3), 2 * Math.max(0, told - 1));
      }
    }
  }

  /** Without PEOPLE there is one SET, of none. */
  private static void nobody() {
    ReflectCensus c = seen("pond 0 0 0 1 0;eye 3 3 0 1 0;", "", "told 0 0;");
    due.is("one SET", c.fits(0, 0, 0, 0), 1);
    due.is("it is 0", c.fits(0, 0, 0, 10), 0);
    due.is("no other", c.fits(0, 0, 0, 11), -2);
    due.is("SURE", c.fits(0, 0, 0, 1), 0);
    due.is("in none", c.fits(0, 0, 0, 2), 0);
    due.is("FALSE", c.fits(0, 0, 0, 3), 0);
    due.is("NEXT", c.fits(0, 0, 0, 4), 0);
  }

  private static void noShines() {
    for (int many = 0; many <= 8; many++) {
      StringBuilder t = new StringBuilder("size 8 2;");
      for (int k = 0; k < many; k++) t.append("person " + k + " 0 0;");
      ReflectCensus c = seen(t.toString(), "", "told 0 9;told 7 9;");
      due.is("all FIT", c.fits(0, 0, 0, 0), 1 << many);
      due.is("the last", c.fits(0, 0, 0, 9 + (1 << many)), (1 << many) - 1);
      due.is("FALSE", c.fits(0, 0, 0, 3), 0);
      due.is("NEXT: no SHINES", c.fits(0, 0, 0, 4), -1);
      due.is("SURE", c.fits(0, 0, 0, 1), 0);
      due.is("in none", c.fits(0, 0, 0, 2), 0);
    }
  }

  /** "(of SHINES that are there and told of)". */
  private static void shinesThatAreNotThere() {
    for (int told = 0; told < 8; told++) {
      for (int there = 0; there <= 8; there++) {
        StringBuilder t = new StringBuilder("size 8 2;person 0 1 0;");
        for (int k = 0; k < there; k++) t.append("spoon " + k + " 0 0 9 0;");
        ReflectCensus c = seen(t.toString(), "", "told " + told + " 9;");
        due.is("told of " + told + ", there " + there, c.fits(0, 0, 0, 0), told < there ? 0 : 2);
        due.is("FALSE", c.fits(0, 0, 0, 3), told < there ? 9 : 0);
      }
    }
  }

  /** Each PERSON by a SPOON of his own: told 1 he is SURE, told 0 in none, not told of neither. */
  private static void sureAndNone() {
    for (int sure = 0; sure < 256; sure += 3) {
      int none = ~sure & (sure * 7 & 255);
      StringBuilder t = new StringBuilder("size 8 2;");
      StringBuilder sight = new StringBuilder();
      for (int k = 0; k < 8; k++) {
        t.append("spoon " + k + " 0 4 9 0;person " + k + " 1 0;");
        if ((sure >> k & 1) == 1) sight.append("told " + k + " 1;");
        if ((none >> k & 1) == 1) sight.append("told " + k + " 0;");
      }
      ReflectCensus c = seen(t.toString(), "", sight.toString());
      due.is("SURE", c.fits(0, 0, 0, 1), sure);
      due.is("in none", c.fits(0, 0, 0, 2), none);
      due.is("how many", c.fits(0, 0, 0, 0), 1 << 8 - Integer.bitCount(sure | none));
      due.is("the first", c.fits(0, 0, 0, 10), sure);
      int open = 255 & ~(sure | none);
      due.is("NEXT: one not told of, else the least", c.fits(0, 0, 0, 4), open == 0 ? 0 : Integer.numberOfTrailingZeros(open));
    }
  }

  /** "NONE: nothing FITS" for SURE, in none, NEXT; but FALSE is told, how many is 0, and no SET is there. */
  private static void nothingFits() {
    for (int slips = 0; slips <= 9; slips++) {
      ReflectCensus c = seen("size 3 2;spoon 0 0 4 9 0;spoon 2 0 4 9 0;person 0 1 0;person 2 1 0;", "", "told 0 9;told 1 3;slips " + slips + ";");
      due.is("how many", c.fits(0, 0, 0, 0), 0);
      for (int w : new int[] {1, 2, 4}) due.is("nothing FITS, " + w, c.fits(0, 0, 0, w), -1);
      due.is("FALSE", c.fits(0, 0, 0, 3), 10);
      due.is("no SET", c.fits(0, 0, 0, 10), -2);
    }
    ReflectCensus none = seen("", "", "told 0 9;");
    due.is("no SHINES, all FIT", none.fits(0, 0, 0, 0), 1);
    due.is("NEXT of no SHINES", none.fits(0, 0, 0, 4), -1);
  }

  /** "that were there, the others not (nor in the way)". */
  private static void theWay() {
    StringBuilder t = new StringBuilder("size 8 2;spoon 0 0 2 9 0;");
    for (int k = 1; k < 8; k++) t.append("person " + k + " 0 " + k + ";");
    ReflectCensus c = seen(t.toString(), "", "told 0 1;");
    due.is("whoever is the first", c.fits(0, 0, 0, 0), 127);
    for (int k = 0; k < 127; k++) due.is("the k-th", c.fits(0, 0, 0, 10 + k), k + 1);
    due.is("all is as told behind it", c.counted(0, 0, 0), 1);
    due.is("all is as told behind it", c.looks(0, 0, 2), 0);
    // without the one between, the SPOON looks at the other, which shows who is there
    ReflectCensus d = seen("size 4 2;spoon 0 0 2 9 0;person 1 0 0;eye 2 0 2 9 0;person 3 0 1;", "cousins 9;", "told 0 1;told 1 1;");
    // SET 1: each sees him from its side; SET 2: the SPOON by the EYE; SET 3: the EYE sees both
    due.is("how many", d.fits(0, 0, 0, 0), 2);
    due.is("the first", d.fits(0, 0, 0, 10), 1);
    due.is("the other", d.fits(0, 0, 0, 11), 2);
  }

  /** Eight SHINES told 9 each, and nobody there: 72. */
  private static void falseOfMany() {
    StringBuilder t = new StringBuilder("size 8 2;");
    StringBuilder sight = new StringBuilder("slips 9;");
    for (int k = 0; k < 8; k++) {
      t.append("spoon " + k + " 0 0 9 0;");
      sight.append("told " + k + " 9;");
      due.is("FALSE of " + (k + 1), seen(t.toString(), "", sight.toString()).fits(0, 0, 0, 3), 9 * (k + 1));
    }
  }

  private static int next(String parish, String law, String sight) { return seen(parish, law, sight).fits(0, 0, 0, 4); }

  /** "the greatest number of those that FIT for which it is alike is least; of several the least". */
  private static void nexts() {
    for (int open = 0; open < 8; open++) {
      StringBuilder t = new StringBuilder("size 8 2;person " + open + " 1 0;");
      for (int k = 0; k < 8; k++) t.append("spoon " + k + " 0 " + (k == open ? 4 : 0) + " 9 0;");
      due.is("the only one that tells", next(t.toString(), "", ""), open);
      due.is("SOUP tells nothing", next(t.toString(), "soup spoon;", ""), 0);
      due.is("told of, it tells nothing more", next(t.toString(), "", "told " + open + " 1;"), 0);
    }
    // a POND of SIZE 1 tells 1 of 4 from 3 of 4; one of SIZE 2: 1, 2, 1; a SPOON 2, 2
    String two = "size 3 2;person 0 1 0;person 2 1 0;";
    due.is("SIZE 1 and 2", next(two + "pond 1 0 0 1 0;pond 1 1 0 2 0;", "", ""), 1);
    due.is("a SPOON before SIZE 1", next(two + "pond 1 0 0 1 0;spoon 0 0 4 1 0;", "", ""), 1);
    due.is("alike: the least", next(two + "spoon 2 0 4 1 0;pond 1 0 0 2 0;", "", ""), 0);
    due.is("TWINS not counted", next(two + "pond 1 0 0 9 0;spoon 2 0 4 9 0;", "twins;", ""), 1);
    due.is("TWINS counted", next(two + "pond 1 0 0 9 0;spoon 2 0 4 9 0;", "", ""), 0);
    // as many as FIT by SLIPS, not all
    due.is("of those that FIT", next(two + "pond 1 0 0 9 0;spoon 2 0 4 9 0;", "", "told 0 1;"), 1);
    // COUNT 8 and COUNT 0 are told apart too: of 256 SETS by 8 round it 70 are alike at most
    due.is("eight round a POND", next(round(8, 9), "", ""), 0);
  }

  private static void wind(String parish, String law, int n, int over, int under) {
    ReflectCensus c = Due.census(parish, law);
    due.is(parish + law + " by " + n + ", over", c.wind(0, 0, n, false), over);
    due.is(parish + law + " by " + n + ", under", c.wind(0, 0, n, true), under);
  }

  private static int divisor(int a, int b) { return b == 0 ? a : divisor(b, a % b); }

  /** "by one of n, 1 .. 9": the mean of SUM, "a fraction in least terms". */
  private static void winds() {
    for (int n = 1; n <= 9; n++) {
      for (int many = 0; many <= 8; many++) {
        int over = many * (n - 1);
        int shared = divisor(over, n);
        wind(round(many, 9), "cousins 9;", n, over / shared, n / shared);
      }
      // an EYE is never STIRRED, a POND beside it is
      String both = "size 5 2;eye 0 0 4 9 0;person 0 1 0;pond 3 0 0 9 0;person 3 1 0;person 4 1 0;wall 1 0;wall 1 1;";
      int over = n + 2 * (n - 1);
      int shared = divisor(over, n);
      wind(both, "", n, over / shared, n / shared);
      wind(both, "soup pond;", n, 1, 1);
      wind(both, "soup eye;soup pond;", n, 0, 1);
      // COUSINS are taken as 0: the SPOON looks at the POND and counts nobody
      String row = "size 3 2;spoon 0 0 2 9 0;pond 1 0 0 9 0;person 2 0 0;";
      shared = divisor(n - 1, n);
      for (int cousins = 0; cousins <= 9; cousins++) wind(row, "cousins " + cousins + ";", n, (n - 1) / shared, n / shared);
    }
    ReflectCensus c = Due.census(round(3, 9), "");
    for (int n : new int[] {0, -1, 10, 11, Integer.MIN_VALUE, Integer.MAX_VALUE}) {
      due.is("another n " + n, c.wind(0, 0, n, false), -1);
      due.is("another n " + n, c.wind(0, 0, n, true), -1);
    }
  }

  /** SUM 0 is 0 by 1, whatever n is. */
  private static void windsOfNone() {
    for (int n = 1; n <= 9; n++) {
      wind("", "", n, 0, 1);
      wind("person 0 0 0;", "", n, 0, 1);
      wind("pond 0 0 0 9 0;", "", n, 0, 1);
      wind("size 2 2;spoon 0 0 2 9 0;person 1 0 0;", "", n, 1, 1);
    }
    wind(round(8, 9), "", 1, 0, 1);
  }

  /** Eight PONDS round one PERSON, each by itself: 8 times 8 by 9; no fraction of 9 times 9 and so on. */
  private static void mostWind() {
    StringBuilder t = new StringBuilder("size 3 3;person 1 1 0;");
    for (int d = 0; d < 8; d++) t.append("pond " + (1 + RIGHT[d]) + " " + (1 + DOWN[d]) + " 0 9 0;");
    wind(t.toString(), "", 9, 64, 9);
    wind(t.toString(), "", 8, 7, 1);
    wind(t.toString(), "", 7, 48, 7);
    wind(t.toString(), "", 6, 20, 3);
    wind(t.toString(), "", 2, 4, 1);
    wind(t.toString(), "", 1, 0, 1);
    wind(t.toString(), "soup pond;", 9, 0, 1);
  }

  /** "each POND is STIRRED", which way it may face; no other KIND is, be its FACE 0 too. */
  private static void windsByKind() {
    String[] kinds = {"pond", "spoon", "mirror", "eye"};
    for (int kind = 0; kind < 4; kind++) {
      for (int d = 0; d < 8; d++) {
        String one = "size 3 3;" + kinds[kind] + " 1 1 " + d + " 9 0;person " + (1 + RIGHT[d]) + " " + (1 + DOWN[d]) + " 0;";
        for (int n = 1; n <= 9; n++) wind(one, "", n, kind == 0 ? n - 1 : 1, kind == 0 && n > 1 ? n : 1);
      }
    }
  }

  /** COUNTS are those by COUSINS, whatever TAX is: in a row of seven SPOONS each looks at the next, the last at one. */
  private static void fitsByCousins() {
    StringBuilder row = new StringBuilder("size 8 2;person 7 0 0;");
    for (int s = 0; s < 7; s++) row.append("spoon " + s + " 0 2 9 0;");
    for (int cousins = 0; cousins <= 9; cousins++) {
      for (int tax = 0; tax <= 9; tax++) {
        for (int s = 0; s < 7; s++) {
          boolean counted = 6 - s <= cousins;
          ReflectCensus c = seen(row.toString(), "cousins " + cousins + ";tax " + tax + ";", "told " + s + " 1;");
          due.is("SETS by " + cousins + " of " + s, c.fits(0, 0, 0, 0), counted ? 1 : 0);
          due.is("SURE", c.fits(0, 0, 0, 1), counted ? 1 : -1);
          due.is("FALSE", c.fits(0, 0, 0, 3), counted ? 0 : 1);
        }
      }
    }
  }
}
