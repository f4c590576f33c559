import java.util.ArrayList;
import java.util.List;

/** The edges of what is seen and counted: promises 10 to 13, 27, 28, 30, 32, terms 2 and 6. */
public final class EdgeSeeTest {
  private static final Due due = new Due("EdgeSeeTest");
  private static final String[] KINDS = {"pond", "spoon", "mirror", "eye"};
  private static final int[] RIGHT = {0, 1, 1, 1, 0, -1, -1, -1};
  private static final int[] DOWN = {-1, -1, 0, 1, 1, 1, 0, -1};

  public static void main(String[] args) {
    toTheEndOfEveryParish();
    theFirstThatIsNotFree();
    chainOfEight();
    rings();
    counts();
    names();
    soups();
    nothingAtAll();
    everySeat();
    tiedSeats();
    clans();
    puddles();
    blindAndLone();
    glances();
    known();
    due.end();
  }

  /** "SQUARE by SQUARE": as far as the PARISH goes, and not into the next row. */
  private static void toTheEndOfEveryParish() {
    for (int wide = 2; wide <= 8; wide++) {
      for (int high = 2; high <= 8; high++) {
        for (int corner = 0; corner < 4; corner++) {
          int x = corner % 2 == 0 ? 0 : wide - 1;
          int y = corner / 2 == 0 ? 0 : high - 1;
          int side = wide - 1 - x;
          int far = high - 1 - y;
          StringBuilder t = new StringBuilder("size " + wide + " " + high + ";pond " + x + " " + y + " 0 9 0;person " + side + " " + y + " 0;person " + x + " " + far + " 0;");
          if (wide == high) t.append("person " + side + " " + far + " 0;");
          ReflectCensus c = Due.census(t.toString(), "");
          int across = x == 0 ? 2 : 6;
          int along = y == 0 ? 4 : 0;
          int slant = x == 0 ? (y == 0 ? 3 : 1) : y == 0 ? 5 : 7;
          for (int d = 0; d < 8; d++) {
            int want = d == across ? 0 : d == along ? 1 : d == slant && wide == high ? 2 : -1;
            due.is(t + " looks " + d, c.looks(0, 0, d), want);
          }
          due.is("SUM", c.counted(0, 0, -1), wide == high ? 3 : 2);
        }
        // he is on the SQUARE of the next number, one row below on the other side
        ReflectCensus c = Due.census("size " + wide + " " + high + ";spoon " + (wide - 1) + " 0 2 9 0;person 0 1 0;", "");
        due.is("not into the next row", c.looks(0, 0, 2), -1);
        ReflectCensus e = Due.census("size " + wide + " " + high + ";spoon 0 1 6 9 0;person " + (wide - 1) + " 0 0;", "");
        due.is("not into the row before", e.looks(0, 0, 6), -1);
      }
    }
  }

  /** "the first one that is not FREE: a PERSON is SEEN in it, a SHINE is LOOKED at; a WALL, the end of the PARISH: nothing". */
  private static void theFirstThatIsNotFree() {
    for (int d = 0; d < 8; d++) {
      for (int far = 1; far <= 3; far++) {
        for (int thing = 0; thing < 4; thing++) {
          StringBuilder t = new StringBuilder("size 8 8;spoon 4 4 " + d + " 9 0;");
          String at = (4 + far * RIGHT[d]) + " " + (4 + far * DOWN[d]);
          String behind = (4 + (far + 1) * RIGHT[d]) + " " + (4 + (far + 1) * DOWN[d]);
          boolean there = !behind.contains("8");
          if (thing == 1) t.append("wall " + at + ";");
          if (thing == 2) t.append("person " + at + " 0;");
          if (thing == 3) t.append("eye " + at + " " + (d + 2) % 8 + " 9 0;");
          if (there) t.append("person " + behind + " 1;");
          ReflectCensus c = Due.census(t.toString(), "");
          int people = c.parish(0, 2);
          int want = thing == 1 ? -1 : thing == 2 ? 0 : thing == 3 ? 11 : there ? 0 : -1;
          due.is(t + " looks", c.looks(0, 0, d), want);
          for (int p = 0; p < people; p++) due.is(t + " degree of " + p, c.degree(0, 0, p), want == p ? 0 : -1);
          for (int other = 0; other < 8; other++) if (other != d) due.is("not OPEN so", c.looks(0, 0, other), -1);
        }
      }
    }
  }

  /** Eight SPOONS in a row, each at the next, the last one down at a PERSON: DEGREES 0 to 7, the greatest there can be. */
  private static String chain(boolean fromTheLeft) {
    StringBuilder t = new StringBuilder("size 8 2;person " + (fromTheLeft ? 7 : 0) + " 1 4;");
    for (int k = 0; k < 8; k++) {
      int at = fromTheLeft ? k : 7 - k;
      t.append("spoon " + at + " 0 " + (k == 7 ? 4 : fromTheLeft ? 2 : 6) + " 9 " + k % 4 + ";");
    }
    return t.toString();
  }

  private static void chainOfEight() {
    for (int side = 0; side < 2; side++) {
      for (int cousins = 0; cousins <= 9; cousins++) {
        ReflectCensus c = Due.census(chain(side == 0), "cousins " + cousins + ";tax 1;", "count;", "");
        for (int s = 0; s < 8; s++) {
          due.is("DEGREE in " + s, c.degree(0, s, 0), 7 - s);
          due.is("COUSINS " + cousins + " in " + s, c.counted(0, 0, s), 7 - s <= cousins ? 1 : 0);
          due.is("CLAN of " + s, c.clan(0, s), 255 & -1 << s);
        }
        int near = Math.min(8, cousins + 1);
        due.is("SUM", c.counted(0, 0, -1), near);
        due.is("KNOWN", c.known(0, 0, 0), near);
        due.is("TAXED", c.state(0, 0, 0, 1, 20), near);
        due.is("DEEP", c.alone(0, 3), 7);
        due.is("PUDDLE", c.puddle(0, 0, false), Math.max(0, 7 - cousins));
        for (int p = 0; p < 4; p++) due.is("TOTAL", c.party(0, 0, p, false), (7 - p <= cousins ? 1 : 0) + (3 - p <= cousins ? 1 : 0));
      }
    }
    // the one before the last turned away: no DEGREE for all before it
    ReflectCensus c = Due.census(chain(true).replace("spoon 6 0 2", "spoon 6 0 0"), "cousins 9;");
    for (int s = 0; s < 8; s++) due.is("broken, in " + s, c.degree(0, s, 0), s == 7 ? 0 : -1);
    due.is("broken, SUM", c.counted(0, 0, -1), 1);
    due.is("broken, DEEP", c.alone(0, 3), 0);
    due.is("broken, LONE", c.alone(0, 1), 127);
  }

  /** SHINES that LOOK at each other in a ring: "none, if there is no such", and the least where there is. */
  private static void rings() {
    String ring = "size 2 3;spoon 0 0 2 9 0;spoon 1 0 4 9 0;spoon 1 1 6 9 0;spoon 0 1 0 9 0;";
    ReflectCensus c = Due.census(ring + "person 0 2 0;person 1 2 0;", "cousins 9;");
    for (int s = 0; s < 4; s++) {
      due.is("no DEGREE", c.degree(0, s, 0), -1);
      due.is("a CLAN of all", c.clan(0, s), 15);
    }
    due.is("SUM", c.counted(0, 0, -1), 0);
    due.is("DEEP", c.alone(0, 3), -1);
    // an EYE in the ring sees one outside it
    ReflectCensus e = Due.census(ring.replace("spoon 0 1 0", "eye 0 1 0") + "person 0 2 0;person 1 2 0;", "cousins 9;");
    int[] degrees = {3, 2, 1, 0};
    for (int s = 0; s < 4; s++) {
      due.is("DEGREE by the eye", e.degree(0, s, 0), degrees[s]);
      due.is("none of the other", e.degree(0, s, 1), -1);
    }
  }

  /** As many people round a POND as may be, for every SIZE: "SIZE at most". */
  private static void counts() {
    for (int size = 1; size <= 9; size++) {
      for (int many = 0; many <= 8; many++) {
        StringBuilder t = new StringBuilder("size 3 3;pond 1 1 0 " + size + " 2;");
        for (int d = 0; d < many; d++) t.append("person " + (1 + RIGHT[d]) + " " + (1 + DOWN[d]) + " " + d / 2 + ";");
        ReflectCensus c = Due.census(t.toString(), "");
        Due.tell(c, 1, "twins;");
        due.is("COUNT", c.counted(0, 0, 0), Math.min(many, size));
        due.is("SUM", c.counted(0, 0, -1), Math.min(many, size));
        due.is("TOTAL", c.party(0, 0, 2, false), Math.min(many, size));
        due.is("COUNT without TWINS", c.counted(0, 1, 0), Math.min((many + 1) / 2, size));
        due.is("PUDDLE", c.puddle(0, 0, true), many);
        due.is("PUDDLE without TWINS", c.puddle(0, 1, true), (many + 1) / 2);
      }
    }
  }

  /** "of those of like NAME but one": every two NAMES, 0 to 9. */
  private static void names() {
    for (int a = 0; a <= 9; a++) {
      for (int b = 0; b <= 9; b++) {
        ReflectCensus c = Due.census("size 3 2;pond 1 0 0 9 0;person 0 0 " + a + ";person 2 0 " + b + ";", "twins;");
        due.is("names " + a + ", " + b, c.counted(0, 0, 0), a == b ? 1 : 2);
      }
    }
    // a twin who is no cousin near enough takes nobody's place
    String row = "size 5 2;spoon 0 0 2 9 0;eye 2 0 2 9 0;person 4 0 1;person 0 1 1;";
    due.is("by COUSINS 0", Due.census(row, "twins;").counted(0, 0, -1), 1);
    due.is("by COUSINS 1", Due.census(row, "twins;cousins 1;").counted(0, 0, -1), 2);
  }

  /** "none at all, if its KIND is SOUP": every KIND, every SOUP. */
  private static void soups() {
    for (int kind = 0; kind < 4; kind++) {
      for (int soup = 0; soup < 16; soup++) {
        StringBuilder law = new StringBuilder();
        for (int k = 0; k < 4; k++) if ((soup >> k & 1) == 1) law.append("soup " + KINDS[k] + ";");
        ReflectCensus c = Due.census("size 2 2;" + KINDS[kind] + " 0 0 2 9 3;person 1 0 0;", law.toString(), "count;", "told 0 1;");
        int want = (soup >> kind & 1) == 1 ? 0 : 1;
        due.is("COUNT", c.counted(0, 0, 0), want);
        due.is("SUM", c.counted(0, 0, -1), want);
        due.is("TOTAL", c.party(0, 0, 3, false), want);
        due.is("SEATS", c.party(0, 0, 3, true), 5 * want);
        due.is("TAXED", c.state(0, 0, 0, 1, 20), want);
        due.is("PUDDLE", c.puddle(0, 0, true), want);
        due.is("FALSE", c.fits(0, 0, 0, 3), 1 - want);
        due.is("DEGREE all the same", c.degree(0, 0, 0), 0);
        due.is("KNOWN all the same", c.known(0, 0, 0), 1);
        due.is("not BLIND", c.alone(0, 0), 0);
      }
    }
  }

  private static void nothingAtAll() {
    ReflectCensus c = Due.census("", "");
    due.is("SUM", c.counted(0, 0, -1), 0);
    due.is("no SHINE 0", c.counted(0, 0, 0), -1);
    due.is("no SHINE 0", c.looks(0, 0, 0), -2);
    due.is("no SHINE 0", c.clan(0, 0), -1);
    due.is("no PERSON 0", c.known(0, 0, 0), -1);
    due.is("nobody is KNOWN most", c.known(0, 0, -1), -1);
    due.is("no PUDDLE", c.puddle(0, 0, false), -1);
    due.is("no PUDDLE", c.puddle(0, 0, true), -1);
    for (int p = 0; p < 4; p++) {
      due.is("TOTAL", c.party(0, 0, p, false), 0);
      due.is("SEATS", c.party(0, 0, p, true), 0);
    }
    ReflectCensus s = Due.census("pond 0 0 0 9 0;", "cousins 9;");
    due.is("no PERSON 0", s.degree(0, 0, 0), -2);
    due.is("COUNT of none", s.counted(0, 0, 0), 0);
    due.is("PUDDLE of none", s.puddle(0, 0, true), 0);
    due.is("the SHINE all the same", s.puddle(0, 0, false), 0);
    ReflectCensus p = Due.census("person 0 0 0;", "cousins 9;");
    due.is("no SHINE 0", p.degree(0, 0, 0), -2);
    due.is("KNOWN in none", p.known(0, 0, 0), 0);
    due.is("KNOWN most all the same", p.known(0, 0, -1), 0);
  }

  private static final String SOUPS = "cousins 9;soup pond;soup mirror;";

  /** TOTALS as asked for, 0 to 7 each: a POND, SOUP itself, with seven round it, and a row of SPOONS that come to it as cousins. */
  private static String votes(int... totals) {
    StringBuilder t = new StringBuilder("size 3 6;pond 1 1 0 9 3;");
    for (int d = 0; d < 8; d++) if (d != 4) t.append("person " + (1 + RIGHT[d]) + " " + (1 + DOWN[d]) + " 0;");
    // a PARTY of no TOTAL has a MIRROR, which is SOUP too
    for (int p = 0; p < 4; p++) t.append((totals[p] == 0 ? "mirror" : "spoon") + " 1 " + (2 + p) + " 0 " + Math.max(totals[p], 1) + " " + p + ";");
    return t.toString();
  }

  /** SEATS by all quotients at once, set in order: another way than one by one. */
  private static int[] byQuotients(int[] totals, int seats, int way) {
    List<int[]> all = new ArrayList<>();
    for (int p = 0; p < 4; p++) for (int k = 0; k < seats; k++) all.add(new int[] {totals[p], way == 0 ? k + 1 : 2 * k + 1, p});
    all.sort((a, b) -> a[0] * b[1] != b[0] * a[1] ? Integer.compare(b[0] * a[1], a[0] * b[1]) : Integer.compare(a[2], b[2]));
    int[] got = new int[4];
    for (int k = 0; k < seats; k++) got[all.get(k)[2]]++;
    return got;
  }

  private static int[] byRemainders(int[] totals, int seats) {
    int sum = totals[0] + totals[1] + totals[2] + totals[3];
    List<Integer> order = new ArrayList<>(List.of(0, 1, 2, 3));
    order.sort((a, b) -> Integer.compare(totals[b] * seats % sum, totals[a] * seats % sum));
    int[] got = new int[4];
    int left = seats;
    for (int p = 0; p < 4; p++) left -= got[p] = totals[p] * seats / sum;
    for (int k = 0; k < left; k++) got[order.get(k)]++;
    return got;
  }

  /** "SEATS, 1 .. 20", "a WAY, 0 .. 2": "Nobody gets any, if all TOTALS are 0." */
  private static void everySeat() {
    int[] some = {0, 1, 2, 3, 5, 7};
    for (int code = 0; code < 1296; code++) {
      int[] totals = {some[code % 6], some[code / 6 % 6], some[code / 36 % 6], some[code / 216]};
      boolean all = totals[0] + totals[1] + totals[2] + totals[3] > 0;
      for (int seats : code % 5 == 0 ? new int[] {1, 2, 3, 4, 10, 19, 20} : new int[] {1 + code % 20}) {
        for (int way = 0; way < 3; way++) {
          ReflectCensus c = Due.census(votes(totals), SOUPS + "seats " + seats + ";way " + way + ";");
          int[] want = !all ? new int[4] : way == 2 ? byRemainders(totals, seats) : byQuotients(totals, seats, way);
          String name = java.util.Arrays.toString(totals) + " way " + way + " of " + seats;
          for (int p = 0; p < 4; p++) {
            due.is(name + " TOTAL of " + p, c.party(0, 0, p, false), totals[p]);
            due.is(name + " SEATS of " + p, c.party(0, 0, p, true), want[p]);
          }
        }
      }
    }
  }

  /** "of several the least", with four alike. */
  private static void tiedSeats() {
    for (int way = 0; way < 3; way++) {
      for (int seats = 1; seats <= 20; seats++) {
        ReflectCensus c = Due.census(votes(3, 3, 3, 3), SOUPS + "seats " + seats + ";way " + way + ";");
        for (int p = 0; p < 4; p++) due.is("four alike", c.party(0, 0, p, true), (seats + 3 - p) / 4);
      }
    }
  }

  private static void clans() {
    StringBuilder t = new StringBuilder("size 8 8;");
    for (int k = 0; k < 8; k++) t.append("spoon " + k + " " + (k % 2 == 0 ? 0 : 2) + " 0 9 0;");
    ReflectCensus c = Due.census(t.toString(), "");
    for (int s = 0; s < 8; s++) due.is("alone in its CLAN", c.clan(0, s), 1 << s);
    due.is("no SHINE 8", c.clan(0, 8), -1);
    due.is("no SHINE -1", c.clan(0, -1), -1);
    // a row against the numbers: the last one comes to all
    StringBuilder back = new StringBuilder("size 8 2;");
    for (int k = 0; k < 8; k++) back.append("spoon " + k + " 0 6 9 0;");
    ReflectCensus d = Due.census(back.toString(), "");
    for (int s = 0; s < 8; s++) due.is("CLAN of " + s, d.clan(0, s), (1 << s + 1) - 1);
  }

  /** "were SIZE 9 of all; the SHINE, of several the least". */
  private static void puddles() {
    for (int first = 0; first < 8; first++) {
      StringBuilder t = new StringBuilder("size 8 2;");
      for (int k = 0; k < 8; k++) t.append("spoon " + k + " 0 " + (k >= first ? 4 : 0) + " 1 0;person " + k + " 1 0;");
      ReflectCensus c = Due.census(t.toString(), "");
      due.is("the least that sees one", c.puddle(0, 0, false), first);
      due.is("one", c.puddle(0, 0, true), 1);
    }
    StringBuilder t = new StringBuilder("size 3 3;pond 1 1 0 1 0;");
    for (int d = 0; d < 8; d++) t.append("person " + (1 + RIGHT[d]) + " " + (1 + DOWN[d]) + " " + d + ";");
    ReflectCensus c = Due.census(t.toString(), "twins;");
    due.is("all 8 in SIZE 1", c.puddle(0, 0, true), 8);
    due.is("which is counted as one", c.counted(0, 0, 0), 1);
  }

  /** BLIND and LONE: none, all eight; DEEP: "NONE: no DEGREES". */
  private static void blindAndLone() {
    for (int many = 0; many <= 8; many++) {
      StringBuilder people = new StringBuilder("size 8 8;");
      StringBuilder shines = new StringBuilder("size 8 8;");
      StringBuilder both = new StringBuilder("size 8 8;");
      for (int k = 0; k < 8; k++) {
        if (k < many) people.append("person " + k + " 4 0;");
        if (k < many) shines.append("pond " + k + " 4 0 9 0;");
        both.append("spoon " + k + " 0 " + (k < many ? 0 : 4) + " 9 0;person " + k + " 7 0;");
      }
      ReflectCensus p = Due.census(people.toString(), "");
      ReflectCensus s = Due.census(shines.toString(), "");
      ReflectCensus b = Due.census(both.toString(), "");
      int bits = (1 << many) - 1;
      due.is("all BLIND", p.alone(0, 0), bits);
      due.is("none LONE", p.alone(0, 1), 0);
      due.is("no DEGREES", p.alone(0, 3), -1);
      due.is("none BLIND", s.alone(0, 0), 0);
      due.is("all LONE", s.alone(0, 1), bits);
      due.is("no DEGREES", s.alone(0, 3), -1);
      due.is("BLIND, not seen by his spoon", b.alone(0, 0), bits);
      due.is("LONE, turned up", b.alone(0, 1), bits);
      due.is("DEEP", b.alone(0, 3), many == 8 ? -1 : 0);
    }
  }

  private static void glances() {
    for (int many = 0; many <= 8; many++) {
      StringBuilder row = new StringBuilder("size 8 2;");
      for (int k = 0; k < many; k++) row.append("pond " + k + " 0 0 9 0;");
      due.is("a row of " + many, Due.census(row.toString(), "").alone(0, 2), Math.max(0, many - 1));
    }
    due.is("four, each at each", Due.census("size 2 2;pond 0 0 0 1 0;pond 1 0 0 1 0;pond 0 1 0 1 0;pond 1 1 0 1 0;", "").alone(0, 2), 6);
    due.is("one looks, the other not", Due.census("size 2 2;pond 0 0 0 1 0;spoon 1 0 0 1 0;", "").alone(0, 2), 0);
    due.is("by no PERSON between", Due.census("size 3 2;pond 0 0 0 1 0;person 1 0 0;pond 2 0 0 1 0;", "").alone(0, 2), 0);
    // on a square's rim of eight PONDS with nothing in the middle: 8 neighbours, 4 across, 4 round each corner
    StringBuilder t = new StringBuilder("size 3 3;");
    for (int d = 0; d < 8; d++) t.append("pond " + (1 + RIGHT[d]) + " " + (1 + DOWN[d]) + " 0 1 0;");
    due.is("a rim of eight", Due.census(t.toString(), "").alone(0, 2), 16);
  }

  /** "in how many SHINES": none to all eight; "of several the least". */
  private static void known() {
    for (int many = 0; many <= 8; many++) {
      StringBuilder t = new StringBuilder("size 8 8;person 1 1 0;person 7 7 0;");
      for (int d = 0; d < 8; d++) t.append("spoon " + (1 + RIGHT[d]) + " " + (1 + DOWN[d]) + " " + ((d + (d < many ? 4 : 0)) % 8) + " 1 0;");
      ReflectCensus c = Due.census(t.toString(), "soup spoon;");
      // the one turned right and down sees the other from afar
      boolean seen = many <= 3;
      due.is("KNOWN in " + many, c.known(0, 0, 0), many);
      due.is("the other", c.known(0, 0, 1), seen ? 1 : 0);
      due.is("most", c.known(0, 0, -1), many == 0 ? 1 : 0);
    }
    for (int last = 0; last < 8; last++) {
      StringBuilder t = new StringBuilder("size 8 2;spoon " + last + " 0 4 9 0;");
      for (int k = 0; k < 8; k++) t.append("person " + k + " 1 0;");
      ReflectCensus c = Due.census(t.toString(), "");
      due.is("KNOWN most", c.known(0, 0, -1), last);
      for (int p = 0; p < 8; p++) due.is("KNOWN of " + p, c.known(0, 0, p), p == last ? 1 : 0);
    }
  }
}
