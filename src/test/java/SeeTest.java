/** Promises 10 to 13, 27, 28, 30, 32: who is seen in what, COUNTS, SEATS, CLANS, PUDDLES, the BLIND, the KNOWN. */
public final class SeeTest {
  private static final Due due = new Due("SeeTest");
  private static final String[] KINDS = {"pond", "spoon", "mirror", "eye"};
  private static final int[] RIGHT = {0, 1, 1, 1, 0, -1, -1, -1};
  private static final int[] DOWN = {-1, -1, 0, 1, 1, 1, 0, -1};

  /** Three spoons in a row, each looking at the next, the last at a person, who hides another. */
  private static final String ROW = "size 8 2;spoon 0 0 2 9 0;spoon 2 0 2 9 1;spoon 4 0 2 9 0;person 6 0 1;person 7 0 2;";

  public static void main(String[] args) {
    open();
    meets();
    degrees();
    counts();
    seats();
    clans();
    puddles();
    alone();
    known();
    shapes();
    due.end();
  }

  private static void open() {
    for (int kind = 0; kind < 4; kind++) {
      for (int face = 0; face < 8; face++) {
        for (int far = 1; far <= 3; far++) {
          StringBuilder t = new StringBuilder("size 7 7;" + KINDS[kind] + " 3 3 " + face + " 9 0;");
          for (int d = 0; d < 8; d++) t.append("person " + (3 + far * RIGHT[d]) + " " + (3 + far * DOWN[d]) + " 0;");
          ReflectCensus c = Due.census(t.toString(), "");
          for (int d = 0; d < 8; d++) {
            boolean open = kind == 0 || d == face;
            if (kind == 2) open |= d == (face + 1) % 8 || face == (d + 1) % 8;
            if (kind == 3) open |= d == face + 4 || face == d + 4;
            due.is(KINDS[kind] + " of face " + face + " in " + d, c.looks(0, 0, d), open ? d : -1);
            due.is("degree so", c.degree(0, 0, d), open ? 0 : -1);
          }
        }
      }
    }
  }

  private static void meets() {
    ReflectCensus c = Due.census("size 5 4;pond 2 1 0 9 0;wall 3 1;person 4 1 0;person 2 3 1;eye 1 1 2 1 1;person 0 1 2;", "");
    int[] want = {-1, -1, -1, -1, 1, -1, 11, -1};
    for (int d = 0; d < 8; d++) due.is("looks(0, 0, " + d + ")", c.looks(0, 0, d), want[d]);
    due.is("looks(0, 1, 2)", c.looks(0, 1, 2), 10);
    due.is("looks(0, 1, 6)", c.looks(0, 1, 6), 2);
    due.is("looks(0, 1, 0)", c.looks(0, 1, 0), -1);
    due.is("direction 8", c.looks(0, 0, 8), -2);
    due.is("direction -1", c.looks(0, 0, -1), -2);
    due.is("no such shine", c.looks(0, 2, 0), -2);
    due.is("no such shine", c.looks(0, -1, 0), -2);
    due.is("no such parish", c.looks(1, 0, 0), -2);
    due.is("no such parish", c.looks(-1, 0, 0), -2);
  }

  private static void degrees() {
    ReflectCensus c = Due.census(ROW, "");
    for (int s = 0; s < 3; s++) {
      due.is("degree(0, " + s + ", 0)", c.degree(0, s, 0), 2 - s);
      due.is("degree(0, " + s + ", 1)", c.degree(0, s, 1), -1);
    }
    due.is("no such shine", c.degree(0, 3, 0), -2);
    due.is("no such shine", c.degree(0, -1, 0), -2);
    due.is("no such person", c.degree(0, 0, 2), -2);
    due.is("no such person", c.degree(0, 0, -1), -2);
    due.is("no such parish", c.degree(1, 0, 0), -2);
    // two that look at each other and at nobody else
    ReflectCensus e = Due.census("size 4 2;spoon 0 0 2 9 0;spoon 3 0 6 9 0;person 0 1 0;", "cousins 9;");
    due.is("each other", e.degree(0, 0, 0), -1);
    due.is("each other", e.degree(0, 1, 0), -1);
    due.is("each other's sum", e.counted(0, 0, -1), 0);
    // seen himself, though by a cousin too
    ReflectCensus f = Due.census("size 3 3;eye 1 1 2 9 0;person 2 1 0;pond 0 1 0 9 0;person 0 0 1;", "");
    due.is("seen", f.degree(0, 0, 0), 0);
    due.is("by the pond", f.degree(0, 0, 1), 1);
    due.is("by the eye", f.degree(0, 1, 0), 1);
    // of two ways the shorter: the eye at 3 looks left at a row of three, right at one that sees him
    ReflectCensus g = Due.census("size 8 2;mirror 1 0 4 9 0;spoon 2 0 6 9 0;eye 3 0 2 9 0;spoon 4 0 5 9 0;person 3 1 0;wall 2 1;wall 1 1;wall 0 1;", "");
    due.is("the shorter", g.degree(0, 2, 0), 1);
    due.is("no way", g.degree(0, 1, 0), -1);
  }

  private static void counts() {
    for (int cousins = 0; cousins < 10; cousins++) {
      ReflectCensus c = Due.census(ROW, "cousins " + cousins + ";");
      for (int s = 0; s < 3; s++) due.is("cousins " + cousins + ", shine " + s, c.counted(0, 0, s), 2 - s <= cousins ? 1 : 0);
      due.is("cousins " + cousins + ", SUM", c.counted(0, 0, -1), Math.min(cousins, 2) + 1);
    }
    String ring = "size 3 3;person 0 0 1;person 1 0 1;person 2 0 2;person 0 1 3;person 2 1 1;";
    ReflectCensus c = Due.census(ring + "pond 1 1 0 9 0;", "");
    due.is("all", c.counted(0, 0, 0), 5);
    Due.tell(c, 1, "twins;");
    due.is("no twins", c.counted(0, 1, 0), 3);
    due.is("SIZE 4", Due.census(ring + "pond 1 1 0 4 0;", "").counted(0, 0, 0), 4);
    due.is("SIZE 4, no twins", Due.census(ring + "pond 1 1 0 4 0;", "twins;").counted(0, 0, 0), 3);
    due.is("SIZE 2, no twins", Due.census(ring + "pond 1 1 0 2 0;", "twins;").counted(0, 0, 0), 2);
    due.is("SOUP", Due.census(ring + "pond 1 1 0 9 0;", "soup pond;").counted(0, 0, 0), 0);
    due.is("other SOUP", Due.census(ring + "pond 1 1 0 9 0;", "soup spoon;soup mirror;soup eye;").counted(0, 0, 0), 5);
    // a SOUP between counts none, yet it shows its people on
    String row = "size 4 2;spoon 0 0 2 9 0;eye 1 0 2 9 0;person 2 0 0;";
    due.is("through SOUP", Due.census(row, "cousins 1;soup eye;").counted(0, 0, -1), 1);
    due.is("no such shine", c.counted(0, 0, 1), -1);
    due.is("no such shine", c.counted(0, 0, -2), -1);
    due.is("no such law", c.counted(0, 2, 0), -1);
    due.is("no such law", c.counted(0, -1, -1), -1);
    due.is("no such parish", c.counted(1, 0, -1), -1);
    due.is("nothing at all", Due.census("", "").counted(0, 0, -1), 0);
  }

  /** TOTALS 5, 3, 1, 0. */
  private static final String VOTES = "size 8 3;pond 1 1 0 5 0;pond 3 1 0 3 1;pond 5 1 0 1 2;person 0 0 0;person 1 0 1;person 2 0 2;"
      + "person 0 2 3;person 1 2 4;person 2 2 5;person 3 0 6;person 5 0 7;";

  private static void seats() {
    int[] totals = {5, 3, 1, 0};
    int[][][] want = {
        {{0, 4, 3, 1, 0}, {0, 5, 3, 2, 0}, {0, 20, 11, 7, 2}, {0, 1, 1, 0, 0}},
        {{1, 4, 3, 1, 0}, {1, 5, 3, 2, 0}, {1, 6, 3, 2, 1}, {1, 3, 2, 1, 0}},
        {{2, 4, 2, 1, 1}, {2, 5, 3, 2, 0}, {2, 9, 5, 3, 1}, {2, 1, 1, 0, 0}, {2, 2, 1, 1, 0}}};
    for (int[][] way : want) {
      for (int[] w : way) {
        ReflectCensus c = Due.census(VOTES, "way " + w[0] + ";seats " + w[1] + ";");
        for (int p = 0; p < 4; p++) {
          due.is("TOTAL of " + p, c.party(0, 0, p, false), totals[p]);
          due.is("SEATS of " + p + " by way " + w[0] + " of " + w[1], c.party(0, 0, p, true), p < 3 ? w[2 + p] : 0);
        }
      }
    }
    ReflectCensus c = Due.census("pond 0 0 0 1 0;", "");
    for (int p = 0; p < 4; p++) due.is("nobody gets any", c.party(0, 0, p, true), 0);
    for (int p : new int[] {-1, 4, Integer.MAX_VALUE}) {
      due.is("no such party", c.party(0, 0, p, true), -1);
      due.is("no such party", c.party(0, 0, p, false), -1);
    }
    due.is("no such parish", c.party(1, 0, 0, true), -1);
    due.is("no such law", c.party(0, 1, 0, true), -1);
    for (int way = 0; way < 3; way++) {
      ReflectCensus one = Due.census("size 2 2;spoon 0 0 4 9 3;person 0 1 0;", "seats 20;way " + way + ";");
      due.is("all to the only one", one.party(0, 0, 3, true), 20);
    }
    // of several the least: two of like TOTALS, one SEAT
    String two = "size 4 2;spoon 0 0 4 9 3;person 0 1 0;spoon 3 0 4 9 2;person 3 1 1;";
    for (int way = 0; way < 3; way++) {
      ReflectCensus d = Due.census(two, "seats 1;way " + way + ";");
      due.is("the least", d.party(0, 0, 2, true), 1);
      due.is("not the other", d.party(0, 0, 3, true), 0);
    }
  }

  private static void clans() {
    ReflectCensus c = Due.census(ROW, "");
    due.is("clan(0, 0)", c.clan(0, 0), 7);
    due.is("clan(0, 1)", c.clan(0, 1), 6);
    due.is("clan(0, 2)", c.clan(0, 2), 4);
    due.is("clan(0, 3)", c.clan(0, 3), -1);
    due.is("clan(0, -1)", c.clan(0, -1), -1);
    due.is("clan(1, 0)", c.clan(1, 0), -1);
    // told the other way round, so that it goes down the numbers
    ReflectCensus d = Due.census("size 8 2;spoon 6 0 2 9 0;spoon 4 0 2 9 0;spoon 2 0 2 9 0;spoon 0 0 2 9 0;", "");
    due.is("from the last", d.clan(0, 3), 15);
    due.is("from the first", d.clan(0, 0), 1);
  }

  private static void puddles() {
    String two = "size 7 3;person 0 0 1;person 1 0 1;person 2 0 2;pond 1 1 0 1 0;eye 5 1 0 2 1;person 5 0 3;person 5 2 4;wall 3 1;";
    ReflectCensus c = Due.census(two, "");
    due.is("SIZE is no matter", c.puddle(0, 0, true), 3);
    due.is("the pond", c.puddle(0, 0, false), 0);
    Due.tell(c, 1, "twins;");
    due.is("of several the least", c.puddle(0, 1, false), 0);
    due.is("two each", c.puddle(0, 1, true), 2);
    due.is("SOUP", Due.census(two, "soup pond;").puddle(0, 0, false), 1);
    due.is("all SOUP", Due.census(two, "soup pond;soup eye;").puddle(0, 0, true), 0);
    due.is("all SOUP, the least", Due.census(two, "soup pond;soup eye;").puddle(0, 0, false), 0);
    due.is("COUSINS", Due.census(ROW, "cousins 0;").puddle(0, 0, false), 2);
    due.is("COUSINS", Due.census(ROW, "cousins 1;").puddle(0, 0, false), 1);
    due.is("no shines", Due.census("person 0 0 0;", "").puddle(0, 0, true), -1);
    due.is("no such parish", c.puddle(1, 0, true), -1);
    due.is("no such law", c.puddle(0, 2, true), -1);
  }

  private static void alone() {
    ReflectCensus c = Due.census(ROW, "");
    due.is("BLIND", c.alone(0, 0), 2);
    due.is("LONE", c.alone(0, 1), 0);
    due.is("GLANCES", c.alone(0, 2), 0);
    due.is("DEEP", c.alone(0, 3), 2);
    ReflectCensus d = Due.census("size 4 2;spoon 0 0 2 9 0;spoon 3 0 6 9 0;person 0 1 0;person 2 1 0;pond 3 1 0 1 0;", "");
    due.is("BLIND", d.alone(0, 0), 1);
    due.is("LONE", d.alone(0, 1), 3);
    due.is("GLANCES", d.alone(0, 2), 1);
    due.is("DEEP", d.alone(0, 3), 0);
    ReflectCensus e = Due.census("person 0 0 0;pond 5 4 0 1 0;", "");
    due.is("no DEGREES", e.alone(0, 3), -1);
    due.is("BLIND", e.alone(0, 0), 1);
    due.is("LONE", e.alone(0, 1), 1);
    ReflectCensus f = Due.census("", "");
    for (int w = 0; w < 3; w++) due.is("an empty parish", f.alone(0, w), 0);
    due.is("an empty parish", f.alone(0, 3), -1);
    for (int w : new int[] {-1, 4, 5, Integer.MIN_VALUE}) due.is("another what", f.alone(0, w), -2);
    due.is("no such parish", f.alone(1, 0), -2);
    due.is("no such parish", f.alone(-1, 0), -2);
    ReflectCensus g = Due.census("pond 0 0 0 1 0;pond 0 1 0 1 0;pond 1 0 0 1 0;", "");
    due.is("three couples", g.alone(0, 2), 3);
  }

  /** Parishes of other shapes by turns: like WIDE, like HIGH, neither. */
  private static void shapes() {
    String[] sizes = {"size 4 3;", "size 4 6;", "size 7 3;", "size 7 6;"};
    for (String first : sizes) {
      for (String second : sizes) {
        ReflectCensus c = Due.census(first + "eye 1 1 2 1 0;person 3 1 0;person 0 1 0;", "");
        Due.tell(c, 0, second + "eye 1 1 0 1 0;person 1 2 0;person 1 0 0;");
        for (int round = 0; round < 2; round++) {
          due.is("right", c.looks(0, 0, 2), 0);
          due.is("left", c.looks(0, 0, 6), 1);
          due.is("down", c.looks(1, 0, 4), 0);
          due.is("up", c.looks(1, 0, 0), 1);
        }
      }
    }
  }

  private static void known() {
    ReflectCensus c = Due.census(ROW, "cousins 1;soup spoon;");
    due.is("SOUP counts here", c.known(0, 0, 0), 2);
    due.is("never seen", c.known(0, 0, 1), 0);
    due.is("most", c.known(0, 0, -1), 0);
    due.is("no such person", c.known(0, 0, 2), -1);
    due.is("no such person", c.known(0, 0, -2), -1);
    due.is("no such law", c.known(0, 1, 0), -1);
    due.is("no such parish", c.known(1, 0, -1), -1);
    ReflectCensus d = Due.census("size 3 2;person 0 1 0;person 1 1 1;person 2 1 2;spoon 1 0 4 1 0;", "");
    due.is("most, not the first", d.known(0, 0, -1), 1);
    Due.feed(d, "size 3 2;person 0 1 0;person 1 1 1;person 2 1 2;pond 1 0 4 1 0;");
    d.text(0, 0);
    due.is("of several the least", d.known(0, 0, -1), 0);
    due.is("SIZE is no matter", d.known(0, 0, 2), 1);
    due.is("no people", Due.census("pond 0 0 0 1 0;", "").known(0, 0, -1), -1);
    due.is("no shines", Due.census("person 0 0 0;person 1 0 0;", "").known(0, 0, -1), 0);
  }
}
