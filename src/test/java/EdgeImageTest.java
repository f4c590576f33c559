/** The edges of counts and images: promises 33 to 35. */
public final class EdgeImageTest {
  private static final Due due = new Due("EdgeImageTest");

  public static void main(String[] args) {
    counts();
    imageOfNothing();
    everySort();
    theTapeAndTheFault();
    threeImages();
    imageOverAnother();
    imagesAreNotInImages();
    questionsBehindAgain();
    due.end();
  }

  /** "How many there are of a sort": 0, 1, 2, and never more. */
  private static void counts() {
    for (int sort = 0; sort < 4; sort++) {
      ReflectCensus c = new ReflectCensus();
      for (int k = 0; k < 5; k++) {
        for (int other = 0; other < 4; other++) due.is("count", c.count(other), other == sort ? Math.min(k, 2) : 0);
        c.text(sort, -1);
      }
      due.is("count(4)", c.count(4), -2);
      due.is("count(-1)", c.count(-1), -2);
    }
  }

  /** An image of a new object is one too: again() leaves no PARISHES, no tape, no FAULT. */
  private static void imageOfNothing() {
    for (int k = 0; k < 3; k++) {
      ReflectCensus c = new ReflectCensus();
      due.is("image", c.image(k), true);
      for (int sort = 0; sort < 4; sort++) {
        c.text(sort, -1);
        c.text(sort, -1);
      }
      Due.tell(c, 0, "?");
      Due.feed(c, "?");
      c.text(0, 0);
      due.is("a FAULT", c.fault(0), 1);
      Due.feed(c, "tax 2;");
      due.is("again", c.again(k), true);
      for (int sort = 0; sort < 4; sort++) due.is("none of sort " + sort, c.count(sort), 0);
      due.is("no parish", c.parish(0, 0), -1);
      due.is("no law", c.law(0, 0), -1);
      due.is("no evening", c.deed(0, -1, 0), -2);
      due.is("no sight", c.sight(0, 0), -2);
      due.is("no tape", c.end(1), -1);
      due.is("no FAULT", c.fault(0), 0);
      due.is("no place", c.fault(1), -1);
      due.is("none to be in the place of", c.text(0, 0), -2);
      due.is("a first one", c.text(0, -1), 0);
      for (int other = 0; other < 3; other++) due.is("image " + other, c.again(other), other == k);
    }
  }

  private static ReflectCensus full(int n) {
    ReflectCensus c = new ReflectCensus();
    tellAll(c, n, -1);
    tellAll(c, n + 1, -1);
    return c;
  }

  private static void tellAll(ReflectCensus c, int n, int at) {
    String[] texts = {"size 8 " + (2 + n) + ";wall 7 0;wall " + n + " 1;person 0 0 " + n + ";person 1 0 " + n + ";eye 2 0 " + n + " " + (n + 1) + " 3;",
        "cousins " + n + ";" + (n % 2 == 0 ? "twins;" : "") + "soup " + (n % 2 == 0 ? "eye" : "pond") + ";seats " + (n + 7) + ";way " + n % 3 + ";tax " + n + ";",
        "go " + n + " 0;" + "count;".repeat(n) + "turn 1 " + n + ";", "slips " + n + ";told 7 " + n + ";told " + n + " 8;"};
    for (int sort = 0; sort < 4; sort++) {
      Due.feed(c, texts[sort]);
      c.text(sort, at);
    }
  }

  private static void isTold(ReflectCensus c, int k, int n) {
    int[][] parish = {{0, 8}, {1, 2 + n}, {2, 2}, {3, 1}, {10, 0}, {11, 1}, {12, -1}, {20, n}, {21, n}, {30, 3}, {40, 2}, {50, n}, {60, n + 1}, {70, 3}};
    for (int[] p : parish) due.is("parish(" + k + ", " + p[0] + ")", c.parish(k, p[0]), p[1]);
    for (int q = 0; q < 16; q++) {
      int want = q == 7 || q == 8 + n ? 1 : q == 0 ? 10 : q == 1 ? 11 : q == 2 ? 20 : 0;
      due.is("square(" + k + ", " + q + ")", c.square(k, q), want);
    }
    due.is("the last square", c.square(k, 8 * (2 + n) - 1), 0);
    due.is("none behind it", c.square(k, 8 * (2 + n)), -1);
    int[] law = {n, n % 2, n % 2 == 0 ? 8 : 1, n + 7, n % 3, n};
    for (int w = 0; w < 6; w++) due.is("law(" + k + ", " + w + ")", c.law(k, w), law[w]);
    due.is("deeds", c.deed(k, -1, 0), n + 2);
    due.is("the first", c.deed(k, 0, 1), n);
    for (int d = 1; d <= n; d++) due.is("count", c.deed(k, d, 0), 4);
    due.is("the last", c.deed(k, n + 1, 2), n);
    due.is("slips", c.sight(k, 0), n);
    for (int s = 0; s < 8; s++) due.is("told of " + s, c.sight(k, 10 + s), s == n ? 8 : s == 7 ? n : -1);
  }

  /** "all that is told": both of each sort, with all that they have. */
  private static void everySort() {
    for (int k = 0; k < 3; k++) {
      for (int at = 0; at < 2; at++) {
        ReflectCensus c = full(1);
        due.is("image", c.image(k), true);
        isTold(c, 0, 1);
        isTold(c, 1, 2);
        tellAll(c, 5, at);
        isTold(c, at, 5);
        isTold(c, 1 - at, 2 - at);
        due.is("again", c.again(k), true);
        isTold(c, 0, 1);
        isTold(c, 1, 2);
      }
    }
  }

  /** "(the tape, the FAULT, too)": each byte of 600, its length, the FAULT and its place. */
  private static void theTapeAndTheFault() {
    ReflectCensus c = new ReflectCensus();
    Due.tell(c, 0, "wall 7 7;");
    Due.feed(c, " ".repeat(594) + "tax 9;");
    c.image(2);
    due.is("taken", c.text(1, -1), 0);
    due.is("no FAULT", c.fault(0), 0);
    Due.feed(c, "x".repeat(600));
    due.is("again", c.again(2), true);
    due.is("FAULT 4", c.fault(0), 4);
    due.is("at 9", c.fault(1), 9);
    due.is("no law yet", c.count(1), 0);
    due.is("as many bytes as may be", c.feed(0, 0, 0, 0, 0), -1);
    due.is("600", c.end(600), 600);
    due.is("the same bytes", c.text(1, -1), 0);
    due.is("to the last", c.law(0, 5), 9);
    // a longer tape behind a shorter one's image is cut to it
    ReflectCensus d = new ReflectCensus();
    Due.feed(d, "tax 3;");
    d.image(0);
    d.feed(0x74617820, 0x343b2020, 0x20202020, 0x20202020, 0x20202020);
    d.again(0);
    due.is("6 bytes", d.end(7), -1);
    due.is("6 bytes", d.end(6), 6);
    due.is("a text", d.text(1, -1), 0);
    due.is("TAX", d.law(0, 5), 3);
    // what was cut off before is none of the image's tape, though it is fed on behind it
    ReflectCensus e = new ReflectCensus();
    Due.feed(e, "tax 3;tax 4;");
    e.end(4);
    e.image(1);
    e.again(1);
    due.is("behind 4 bytes", e.feed(0x353b2020, 0x20202020, 0x20202020, 0x20202020, 0x20202020), 24);
    due.is("a text", e.text(1, -1), 0);
    due.is("TAX", e.law(0, 5), 5);
  }

  /** "Image k (0 .. 2)": three of them, each by itself; "(other images stay)". */
  private static void threeImages() {
    ReflectCensus c = full(0);
    for (int k = 0; k < 3; k++) {
      tellAll(c, 2 * k, 0);
      tellAll(c, 2 * k + 1, 1);
      due.is("image " + k, c.image(k), true);
    }
    for (int k : new int[] {1, 0, 2, 2}) {
      due.is("again " + k, c.again(k), true);
      due.is("PARISH", c.parish(0, 20), 2 * k);
      due.is("LAW", c.law(1, 5), 2 * k + 1);
      due.is("EVENING", c.deed(0, -1, 0), 2 * k + 2);
      due.is("SIGHT", c.sight(1, 0), 2 * k + 1);
    }
    due.is("no image 3", c.image(3), false);
    due.is("no image -1", c.image(-1), false);
    due.is("no image 3", c.again(3), false);
    due.is("no image -1", c.again(-1), false);
    due.is("all stays", c.parish(0, 20), 4);
  }

  private static void imageOverAnother() {
    ReflectCensus c = new ReflectCensus();
    for (int n = 0; n < 3; n++) {
      Due.tell(c, 1, "tax " + n + ";");
      c.image(1);
    }
    c.text(1, 0);
    due.is("again", c.again(1), true);
    due.is("the latest", c.count(1), 2);
    due.is("TAX", c.law(0, 5), 0);
    due.is("TAX", c.law(1, 5), 1);
  }

  /** again() brings back what is told, but no earlier images. */
  private static void imagesAreNotInImages() {
    ReflectCensus c = new ReflectCensus();
    c.image(0);
    c.text(1, -1);
    c.image(1);
    c.again(0);
    due.is("image 1 is there still", c.again(1), true);
    due.is("with a LAW", c.count(1), 1);
    c.image(0);
    c.again(1);
    c.again(0);
    due.is("the later image 0", c.count(1), 1);
    due.is("none of 2", c.again(2), false);
  }

  /** Questions asked before leave nothing behind, nor do those of another PARISH. */
  private static void questionsBehindAgain() {
    ReflectCensus c = Due.census("size 4 2;spoon 0 0 2 9 0;person 3 0 0;", "cousins 1;", "stir 0;count;", "told 0 0;");
    for (int round = 0; round < 2; round++) {
      c.image(round);
      due.is("SUM", c.counted(0, 0, -1), 1);
      due.is("STIRRED", c.state(0, 0, 0, 1, 1), 0);
      due.is("BARRED", c.barred(0, 0, true), 0);
      due.is("STAND", c.stand(0, 0, 0, true, false), 4);
      due.is("FIT", c.fits(0, 0, 0, 10), 0);
      due.is("SPOON", c.spoon(0, 0, 1, true), 2);
      due.is("SUM as told", c.counted(0, 0, 0), 1);
      Due.feed(c, "size 2 4;pond 0 0 2 9 0;person 1 3 0;");
      due.is("another PARISH", c.text(0, 0), 0);
      due.is("SUM of it", c.counted(0, 0, -1), 0);
      due.is("WAY in it", c.way(0, 0, 7), 4);
      due.is("again", c.again(round), true);
      due.is("WAY in the first", c.way(0, 0, 7), 4);
      due.is("WAY on top", c.way(0, 0, 3), 3);
    }
  }
}
