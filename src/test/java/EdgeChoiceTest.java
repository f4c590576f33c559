import java.util.ArrayList;
import java.util.List;

/** The edges of where to stand, which way to turn, one more SPOON, the GAME, one more WALL: promises 16 to 21 and 31. */
public final class EdgeChoiceTest {
  private static final Due due = new Due("EdgeChoiceTest");
  private static final int[] RIGHT = {0, 1, 1, 1, 0, -1, -1, -1};
  private static final int[] DOWN = {-1, -1, 0, 1, 1, 1, 0, -1};

  public static void main(String[] args) {
    lastSquares();
    ofSeveralTheLeast();
    noSquareIsFree();
    oneSquareIsFree();
    ownSquares();
    bothOnOne();
    everyFace();
    spoons();
    sevenAndEightShines();
    couples();
    restsNoneAndAll();
    restsByPrizes();
    gameOfOthers();
    walls();
    byTheDefinition();
    due.end();
  }

  private static void stands(String parish, int person, int fewest, int fewestSum, int most, int mostSum) {
    ReflectCensus c = Due.census(parish, "");
    due.is(parish + " fewest", c.stand(0, 0, person, true, false), fewest);
    due.is(parish + " fewest, SUM", c.stand(0, 0, person, true, true), fewestSum);
    due.is(parish + " most", c.stand(0, 0, person, false, false), most);
    due.is(parish + " most, SUM", c.stand(0, 0, person, false, true), mostSum);
  }

  /** SQUARE 63, couples of SQUARES up to 64 times 63 and 62, a SPOON's 8 times 63 and 7. */
  private static void lastSquares() {
    stands("size 8 8;spoon 6 7 2 9 0;person 0 0 0;", 0, 0, 0, 63, 1);
    stands("size 8 8;spoon 1 0 6 9 0;person 7 7 0;", 0, 2, 0, 0, 1);
    // NAME 1 is seen already, so that the other on 63 and he on 62, or the first there and the other on 62, are told apart
    String two = "size 8 8;mirror 6 6 3 9 0;person 7 6 1;person 5 7 1;person 0 0 2;wall 6 7;";
    ReflectCensus c = Due.census(two, "twins;");
    due.is("the other on 63", c.together(0, 0, 1, 2, true), 2);
    due.is("the other on 63", c.together(0, 0, 1, 2, false), 63);
    due.is("the first on 63", c.together(0, 0, 2, 1, false), 64 * 63);
    String nook = "size 8 8;person 6 6 0;wall 5 5;wall 6 5;wall 7 5;wall 5 6;wall 7 6;wall 5 7;wall 6 7;";
    due.is("a SPOON on 63 looking up left", Due.census(nook, "").spoon(0, 0, 3, false), 8 * 63 + 7);
    due.is("all SEATS", Due.census(nook, "seats 20;").spoon(0, 0, 3, true), 20);
    String lastWall = "size 8 8;spoon 7 6 4 9 0;person 7 7 0;spoon 0 0 2 9 0;person 1 0 0;";
    due.is("none is fewer: the least FREE", Due.census(lastWall, "").barred(0, 0, false), 2);
    due.is("before the last", Due.census("size 8 8;spoon 5 7 2 9 0;person 7 7 0;", "").barred(0, 0, false), 62);
    ReflectCensus d = Due.census(tight("person7 7 2;"), "twins;");
    due.is("as told", d.counted(0, 0, -1), 2);
    due.is("62 and 63", d.together(0, 0, 1, 2, false), 64 * 62 + 63);
    due.is("63 and 62", d.together(0, 0, 2, 1, false), 64 * 63 + 62);
    ReflectCensus e = Due.census(tight(""), "twins;");
    due.is("a WALL on 63", e.barred(0, 0, false), 63);
    due.is("a SPOON on 63", e.spoon(0, 0, 0, false), 8 * 63);
    due.is("a SPOON on 63 for another PARTY", e.spoon(0, 0, 1, false), 8 * 63 + 6);
    due.is("he stands on 63", e.stand(0, 0, 1, true, false), 63);
  }

  /** 8 by 8, all WALLS but an EYE that sees 62 below it and a twin of who is on 63 above it. */
  private static String tight(String on63) {
    StringBuilder t = new StringBuilder("size8 8;");
    for (int q = 0; q < 63; q++) {
      if (q == 62) t.append("person6 7 1;");
      else if (q == 54) t.append("eye6 6 4 9 0;");
      else if (q == 46) t.append("person6 5 2;");
      else t.append("wall" + q % 8 + " " + q / 8 + ";");
    }
    return t + on63;
  }

  /** Where all is alike: the least SQUARE, number, FACE. */
  private static void ofSeveralTheLeast() {
    for (int wide = 2; wide <= 8; wide += 3) {
      for (int high = 2; high <= 8; high += 3) {
        String size = "size " + wide + " " + high + ";";
        String at = (wide - 1) + " " + (high - 1);
        ReflectCensus c = Due.census(size + "person " + at + " 0;person 0 0 0;", "");
        due.is("nothing sees him: the least FREE", c.stand(0, 0, 0, false, false), 1);
        due.is("or fewest", c.stand(0, 0, 0, true, false), 1);
        due.is("his own is the least", c.stand(0, 0, 1, false, false), 0);
        due.is("SUM 0", c.stand(0, 0, 0, false, true), 0);
        due.is("the first on 0", c.together(0, 0, 0, 1, false), 1);
        due.is("the first on 0", c.together(0, 0, 1, 0, false), 1);
        due.is("SUM 0", c.together(0, 0, 0, 1, true), 0);
        due.is("a WALL on the least FREE", c.barred(0, 0, false), 1);
        ReflectCensus d = Due.census(size + "wall 0 0;pond " + at + " 5 9 0;", "");
        for (int p = 0; p < 4; p++) {
          due.is("a SPOON helps none: FACE 0", d.spoon(0, 0, p, false), 8);
          due.is("no SEATS", d.spoon(0, 0, p, true), 0);
        }
        due.is("a POND turns to 0", d.turned(0, 0, 0, false), 0);
        due.is("by SUM 0", d.turned(0, 0, 0, true), 0);
      }
    }
  }

  /** 8 by 7 with 8 PEOPLE, so many SHINES, and a WALL on all other SQUARES but those named. */
  private static String full(int shines, int... free) {
    StringBuilder t = new StringBuilder("size 8 7;");
    for (int q = 0; q < 56; q++) {
      boolean left = false;
      for (int f : free) left |= f == q;
      if (left) continue;
      if (q < 8) t.append("person " + q + " 0 " + q + ";");
      else if (q < 8 + shines) t.append("eye " + q % 8 + " 1 0 9 " + q % 4 + ";");
      else t.append("wall " + q % 8 + " " + q / 8 + ";");
    }
    return t.toString();
  }

  /** "NONE: no SQUARE is FREE": spoon() and barred(); one who stands may stay where he is. */
  private static void noSquareIsFree() {
    for (int shines = 6; shines <= 8; shines++) {
      ReflectCensus c = Due.census(full(shines), "");
      for (int q = 0; q < 56; q++) due.is("not FREE", c.square(0, q) == 0, false);
      due.is("SUM", c.counted(0, 0, -1), shines);
      for (int p = 0; p < 4; p++) {
        due.is("no place for a SPOON", c.spoon(0, 0, p, false), -1);
        due.is("no SEATS of it", c.spoon(0, 0, p, true), -1);
      }
      due.is("no place for a WALL", c.barred(0, 0, false), -1);
      due.is("no SUM of it", c.barred(0, 0, true), -1);
      for (int p = 0; p < 8; p++) {
        due.is("his own", c.stand(0, 0, p, false, false), p);
        due.is("his own", c.stand(0, 0, p, true, false), p);
        due.is("his SUM", c.stand(0, 0, p, true, true), shines);
      }
      due.is("two change places or not", c.together(0, 0, 7, 0, false), 7);
      due.is("two change places or not", c.together(0, 0, 0, 7, false), 7);
      due.is("their SUM", c.together(0, 0, 0, 7, true), shines);
    }
  }

  private static void oneSquareIsFree() {
    for (int free : new int[] {23, 55}) {
      ReflectCensus c = Due.census(full(7, free), "");
      due.is("the only place for a WALL", c.barred(0, 0, false), free);
      due.is("its SUM", c.barred(0, 0, true), 7);
      due.is("the only place for a SPOON", c.spoon(0, 0, 1, false), 8 * free);
      due.is("he may stand there too", c.stand(0, 0, 6, true, false), free);
      due.is("or not", c.stand(0, 0, 6, false, false), 6);
      due.is("SUM fewest", c.stand(0, 0, 6, true, true), 6);
      due.is("SUM most", c.stand(0, 0, 6, false, true), 7);
      // 7 is seen by no EYE, as there are but seven
      due.is("both are seen or one of them", c.together(0, 0, 6, 7, true), 7);
      due.is("the least of such", c.together(0, 0, 6, 7, false), 64 * 6 + 7);
      due.is("the least of such", c.together(0, 0, 7, 6, false), 64 * 6 + 7);
    }
  }

  /** "FREE or his own": not another's, though he could be there seen more. */
  private static void ownSquares() {
    String row = "size 3 2;spoon 0 0 2 1 0;person 1 0 0;person 0 1 0;wall 1 1;wall 2 1;";
    stands(row, 0, 1, 1, 1, 1);
    stands(row, 1, 2, 1, 2, 1);
    // two may stand on each other's
    String swap = "size 3 2;mirror 1 0 4 9 0;person 0 0 1;person 0 1 2;person 2 1 1;wall 1 1;wall 2 0;";
    ReflectCensus c = Due.census(swap, "twins;");
    due.is("as told", c.counted(0, 0, -1), 2);
    due.is("not to change places", c.together(0, 0, 0, 1, false), 64 * 0 + 3);
    due.is("to change places", Due.census(swap.replace("person 0 0 1;person 0 1 2;", "person 0 0 2;person 0 1 1;"), "twins;").together(0, 0, 0, 1, false), 64 * 3 + 0);
  }

  /** "NONE: both are one, or there is none such". */
  private static void bothOnOne() {
    StringBuilder t = new StringBuilder("size 8 2;");
    for (int k = 0; k < 8; k++) t.append("person " + k + " 0 0;");
    ReflectCensus c = Due.census(t.toString(), "");
    for (int a = -1; a <= 8; a++) {
      for (int b = -1; b <= 8; b++) {
        boolean can = a != b && a >= 0 && b >= 0 && a < 8 && b < 8;
        // the two least of FREE SQUARES, 8 on, and their own
        int low = Math.min(a, b);
        int high = Math.max(a, b);
        due.is("together " + a + ", " + b, c.together(0, 0, a, b, false), can ? 64 * low + high : -1);
        due.is("SUM of " + a + ", " + b, c.together(0, 0, a, b, true), can ? 0 : -1);
      }
    }
    due.is("one alone", Due.census("person 0 0 0;", "").together(0, 0, 0, 0, true), -1);
    due.is("one and none", Due.census("person 0 0 0;", "").together(0, 0, 0, 1, true), -1);
    due.is("nobody", Due.census("", "").together(0, 0, 0, 1, true), -1);
    due.is("nobody", Due.census("", "").stand(0, 0, 0, true, true), -1);
  }

  /** TURN: each FACE 0 to 7 may be the one; of several the least, behind 7 comes 0. */
  private static void everyFace() {
    for (int d = 0; d < 8; d++) {
      for (int told = 0; told < 8; told++) {
        String at = (1 + RIGHT[d]) + " " + (1 + DOWN[d]);
        ReflectCensus c = Due.census("size 3 3;spoon 1 1 " + told + " 9 0;person " + at + " 0;", "");
        due.is("a SPOON's", c.turned(0, 0, 0, false), d);
        due.is("its SUM", c.turned(0, 0, 0, true), 1);
        ReflectCensus m = Due.census("size 3 3;mirror 1 1 " + told + " 9 0;person " + at + " 0;", "");
        due.is("a MIRROR's", m.turned(0, 0, 0, false), d <= 1 || d == 7 ? 0 : d - 1);
        ReflectCensus e = Due.census("size 3 3;eye 1 1 " + told + " 9 0;person " + at + " 0;", "");
        due.is("an EYE's", e.turned(0, 0, 0, false), d % 4);
        ReflectCensus p = Due.census("size 3 3;pond 1 1 " + told + " 9 0;person " + at + " 0;", "");
        due.is("a POND's", p.turned(0, 0, 0, false), 0);
        due.is("told stays", c.parish(0, 50), told);
      }
    }
    // for all to be counted most it may look away from its own: in the way it is on its SQUARE whatever its FACE
    ReflectCensus c = Due.census("size 3 2;spoon 0 0 2 9 0;spoon 1 0 4 9 1;person 2 0 0;person 1 1 1;", "cousins 1;");
    due.is("SUM of all", c.turned(0, 0, 1, true), 2);
    due.is("the least FACE of these", c.turned(0, 0, 1, false), 2);
  }

  /** "of any FACE", "of SIZE 9", for each PARTY. */
  private static void spoons() {
    for (int d = 0; d < 8; d++) {
      // FREE is the middle alone
      StringBuilder t = new StringBuilder("size 3 3;");
      for (int k = 0; k < 8; k++) t.append((k == d ? "person " : "wall ") + (1 + RIGHT[k]) + " " + (1 + DOWN[k]) + (k == d ? " 0;" : ";"));
      for (int party = 0; party < 4; party++) {
        for (int seats : new int[] {1, 5, 20}) {
          ReflectCensus c = Due.census(t.toString(), "seats " + seats + ";");
          due.is("where", c.spoon(0, 0, party, false), 8 * 4 + d);
          due.is("SEATS", c.spoon(0, 0, party, true), seats);
          due.is("nothing stays of it", c.parish(0, 3), 0);
          due.is("FREE as told", c.square(0, 4), 0);
        }
      }
    }
    // by COUSINS it counts all eight of a POND, which no smaller SIZE would: 8 of 9 by all 8 and the POND's 1
    StringBuilder t = new StringBuilder("size 8 8;pond 3 3 0 1 1;person 3 1 0;person 1 3 1;person 5 3 2;person 5 5 3;person 1 5 4;person 1 1 5;person 5 1 6;");
    ReflectCensus c = Due.census(t.toString(), "cousins 1;way 2;seats 8;");
    due.is("7 and 1", c.spoon(0, 0, 0, true), 7);
    due.is("on the first SQUARE from which it looks at the POND", c.spoon(0, 0, 0, false), 8 * 18 + 3);
    // it may take SEATS from others by standing in the way, and can't if COUSINS come through it
    String row = "size 3 2;spoon 0 0 2 9 1;person 2 0 0;wall 0 1;wall 1 1;wall 2 1;";
    due.is("all", Due.census(row, "").spoon(0, 0, 0, true), 5);
    due.is("half, the lesser PARTY first", Due.census(row, "cousins 1;").spoon(0, 0, 0, true), 3);
    due.is("half, the greater PARTY last", Due.census(row, "cousins 1;").spoon(0, 0, 2, true), 2);
    due.is("its own PARTY", Due.census(row, "cousins 1;").spoon(0, 0, 1, true), 5);
    due.is("its own PARTY keeps all, looking away or not", Due.census(row, "cousins 1;").spoon(0, 0, 1, false), 8 + 2);
  }

  /** "there are 8 SHINES": 7 are not too many. */
  private static void sevenAndEightShines() {
    for (int many = 0; many <= 8; many++) {
      StringBuilder t = new StringBuilder("size 8 8;person 7 7 0;");
      for (int k = 0; k < many; k++) t.append("spoon " + k + " 0 0 9 0;");
      ReflectCensus c = Due.census(t.toString(), "");
      due.is("SEATS beside " + many, c.spoon(0, 0, 1, true), many < 8 ? 5 : -1);
      due.is("where beside " + many, c.spoon(0, 0, 1, false), many == 8 ? -1 : many == 0 ? 3 : 8 * 7 + 4);
      due.is("SUM as told", c.counted(0, 0, -1), 0);
      due.is("SHINES as told", c.parish(0, 3), many);
    }
  }

  private static final String GAME = "size 3 3;spoon 0 0 0 9 0;spoon 2 2 0 9 1;person 0 2 0;person 2 0 1;";

  /** "a couple of FACES, 0 .. 63 (8 times PARTY 0's, and 1's)". */
  private static void couples() {
    ReflectCensus c = Due.census(GAME, "");
    for (int couple = -1; couple <= 64; couple++) {
      boolean can = couple >= 0 && couple < 64;
      int mine = couple >> 3;
      int yours = couple & 7;
      due.is("PRIZE of 0 by " + couple, c.prize(0, 0, 0, couple), !can ? -1 : mine == 2 || mine == 4 ? 1 : 0);
      due.is("PRIZE of 1 by " + couple, c.prize(0, 0, 1, couple), !can ? -1 : yours == 0 || yours == 6 ? 1 : 0);
      for (int who : new int[] {-1, 2, 3}) due.is("no such PARTY", c.prize(0, 0, who, couple), -1);
    }
    ReflectCensus d = Due.census(GAME, "");
    due.is("how many", d.rest(0, 0, -1), 4);
    int[] rests = {16, 22, 32, 38};
    for (int k = 0; k < 4; k++) due.is("rest " + k, d.rest(0, 0, k), rests[k]);
    for (int k : new int[] {4, 5, 63, 64, Integer.MAX_VALUE, -2, Integer.MIN_VALUE}) due.is("no rest " + k, d.rest(0, 0, k), -1);
  }

  /** RESTS: none at all, and all 64. */
  private static void restsNoneAndAll() {
    String restless = "size 5 5;spoon 0 1 4 3 0;mirror 2 3 3 7 1;spoon 0 4 1 1 1;pond 1 0 6 5 0;pond 1 1 3 5 0;pond 3 4 2 6 1;person 1 4 4;person 3 2 7;"
        + "person 1 3 2;person 2 0 1;wall 4 4;wall 0 3;";
    ReflectCensus c = Due.census(restless, "cousins 3;twins;");
    due.is("none", c.rest(0, 0, -1), 0);
    due.is("no first", c.rest(0, 0, 0), -1);
    int[][] prizes = new int[2][64];
    for (int who = 0; who < 2; who++) for (int couple = 0; couple < 64; couple++) prizes[who][couple] = c.prize(0, 0, who, couple);
    for (int couple = 0; couple < 64; couple++) {
      boolean gains = false;
      for (int face = 0; face < 8; face++) {
        gains |= prizes[0][8 * face + couple % 8] > prizes[0][couple];
        gains |= prizes[1][couple / 8 * 8 + face] > prizes[1][couple];
      }
      due.is("one gains by turning from " + couple, gains, true);
    }
    ReflectCensus all = Due.census("spoon 0 0 0 9 0;spoon 5 5 0 9 1;", "");
    due.is("all", all.rest(0, 0, -1), 64);
    for (int k = 0; k <= 64; k++) due.is("the k-th", all.rest(0, 0, k), k < 64 ? k : -1);
  }

  /** "by which neither gains by another one": in games where much hangs on what the other does. */
  private static void restsByPrizes() {
    String[] games = {
        "size 4 6;mirror 2 3 2 6 0;mirror 1 4 2 2 1;pond 0 4 6 6 1;pond 1 2 0 9 0;eye 2 0 6 4 1;spoon 2 4 6 5 1;mirror 3 5 4 5 1;person 1 0 0;person 3 1 6;person 3 2 3;"
            + "person 0 2 4;person 0 5 0;person 2 5 1;wall 2 2;wall 0 1;wall 0 3;",
        "size 4 5;spoon 1 2 3 9 0;mirror 2 3 3 8 1;eye 2 1 0 8 0;pond 0 3 6 1 0;eye 1 4 0 9 1;spoon 2 2 6 4 1;person 3 3 2;person 3 4 5;person 0 2 6;person 0 4 3;person 2 0 4;",
        "size 5 6;spoon 0 3 1 6 0;spoon 1 3 3 2 1;spoon 1 5 5 6 0;pond 3 3 7 5 0;eye 1 2 5 9 1;pond 4 1 0 3 1;person 3 1 7;person 4 0 7;person 0 0 6;person 3 5 2;person 0 1 7;",
        "size 3 3;spoon 0 0 0 9 0;spoon 2 0 0 9 1;person 0 2 0;person 2 2 1;person 1 1 2;",
        "size 3 3;eye 0 0 0 9 1;mirror 2 1 0 9 0;person 0 2 0;person 2 2 1;person 1 0 2;person 1 2 3;"};
    for (String game : games) {
      for (String law : new String[] {"", "cousins 1;", "cousins 2;twins;", "cousins 9;soup mirror;"}) restsByPrizes(game, law);
    }
  }

  private static void restsByPrizes(String game, String law) {
    ReflectCensus c = Due.census(game, law);
    int[][] mine = new int[8][8];
    int[][] yours = new int[8][8];
    for (int couple = 0; couple < 64; couple++) {
      mine[couple / 8][couple % 8] = c.prize(0, 0, 0, couple);
      yours[couple / 8][couple % 8] = c.prize(0, 0, 1, couple);
    }
    int found = 0;
    for (int a = 0; a < 8; a++) {
      for (int b = 0; b < 8; b++) {
        boolean calm = true;
        for (int face = 0; face < 8; face++) calm &= mine[face][b] <= mine[a][b] && yours[a][face] <= yours[a][b];
        if (calm) due.is(game + law + " rest " + found, c.rest(0, 0, found++), 8 * a + b);
      }
    }
    due.is(game + law + " rests", c.rest(0, 0, -1), found);
    due.is(game + law + " no further one", c.rest(0, 0, found), -1);
  }

  /** "NONE: a PARTY of both has no SHINE": PARTIES 2 and 3 are no matter; "its least SHINE" is turned. */
  private static void gameOfOthers() {
    for (int a = 0; a < 4; a++) {
      for (int b = 0; b < 4; b++) {
        ReflectCensus c = Due.census("spoon 0 0 0 9 " + a + ";spoon 5 5 0 9 " + b + ";", "");
        boolean game = a != b && a < 2 && b < 2;
        for (int who = 0; who < 2; who++) due.is("PARTIES " + a + ", " + b, c.prize(0, 0, who, 0), game ? 0 : -1);
        due.is("RESTS of " + a + ", " + b, c.rest(0, 0, -1), game ? 64 : -1);
        due.is("the first of " + a + ", " + b, c.rest(0, 0, 0), game ? 0 : -1);
      }
    }
    due.is("no SHINES", Due.census("person 0 0 0;", "").rest(0, 0, -1), -1);
    due.is("no SHINES", Due.census("person 0 0 0;", "").prize(0, 0, 0, 0), -1);
    // the second one of PARTY 0 stays as told, and PARTY 2's is not turned though it comes first
    ReflectCensus c = Due.census("size 4 3;spoon 3 2 6 9 2;spoon 0 0 0 9 0;spoon 2 0 0 9 0;spoon 3 0 0 9 1;person 0 1 0;person 2 1 1;", "");
    for (int couple = 0; couple < 64; couple++) due.is("by " + couple, c.prize(0, 0, 0, couple), couple >> 3 == 4 ? 1 : 0);
  }

  private static void walls() {
    for (int at = 0; at < 6; at++) {
      ReflectCensus c = Due.census("size 8 2;spoon " + at + " 0 2 9 0;person 7 0 0;", "");
      due.is("the first between", c.barred(0, 0, false), at + 1);
      due.is("SUM", c.barred(0, 0, true), 0);
    }
    ReflectCensus beside = Due.census("size 8 2;spoon 6 0 2 9 0;person 7 0 0;", "");
    due.is("none between: the least FREE", beside.barred(0, 0, false), 0);
    due.is("SUM stays", beside.barred(0, 0, true), 1);
    // it can open nothing: SUM is never more, but by a cousin's being hidden it may be less
    ReflectCensus c = Due.census("size 4 2;spoon 0 0 2 9 0;spoon 2 0 4 9 0;person 2 1 0;person 0 1 1;wall 1 1;wall 3 1;wall 3 0;", "cousins 1;");
    due.is("between cousins", c.barred(0, 0, false), 1);
    due.is("one is left", c.barred(0, 0, true), 1);
    due.is("as told", c.counted(0, 0, -1), 2);
    // hidden from the one, a second is seen no more often; two at once behind one SQUARE
    ReflectCensus d = Due.census("size 5 5;spoon 0 2 2 9 0;spoon 2 0 4 9 0;person 4 2 0;person 2 4 1;", "");
    due.is("where two looks cross", d.barred(0, 0, false), 12);
    due.is("none is left", d.barred(0, 0, true), 0);
  }

  // ---- by the definition: every choice told as a PARISH of its own, and asked for its SUM or SEATS

  private static final class Sketch {
    final String[] name;
    final int[] square;
    final String[] rest;
    final int wide;
    final int high;

    /** Things as 'word column row rest' behind the size. */
    Sketch(String text) {
      String[] lines = text.split(";");
      String[] size = lines[0].split(" ");
      wide = Integer.parseInt(size[1]);
      high = Integer.parseInt(size[2]);
      int many = lines.length - 1;
      name = new String[many];
      square = new int[many];
      rest = new String[many];
      for (int k = 0; k < many; k++) {
        String[] w = lines[k + 1].split(" ", 4);
        name[k] = w[0];
        square[k] = wide * Integer.parseInt(w[2]) + Integer.parseInt(w[1]);
        rest[k] = w.length > 3 ? " " + w[3] : "";
      }
    }

    String text() {
      StringBuilder t = new StringBuilder("size " + wide + " " + high + ";");
      for (int k = 0; k < name.length; k++) t.append(name[k] + " " + square[k] % wide + " " + square[k] / wide + rest[k] + ";");
      return t.toString();
    }

    int thing(boolean person, int number) {
      int seen = 0;
      for (int k = 0; k < name.length; k++) {
        boolean is = person ? name[k].equals("person") : !name[k].equals("person") && !name[k].equals("wall");
        if (is && seen++ == number) return k;
      }
      return -1;
    }

    List<Integer> free() {
      List<Integer> list = new ArrayList<>();
      for (int q = 0; q < wide * high; q++) {
        boolean taken = false;
        for (int s : square) taken |= s == q;
        if (!taken) list.add(q);
      }
      return list;
    }
  }

  private static void byTheDefinition() {
    String[] parishes = {
        "size 2 2;pond 0 0 0 9 0;person 1 0 3;spoon 1 1 7 2 1;",
        "size 2 8;eye 0 4 0 9 0;spoon 1 7 0 9 1;person 0 0 1;person 1 3 1;person 0 7 2;wall 1 4;",
        "size 8 2;mirror 0 0 3 2 1;spoon 7 1 7 9 0;eye 3 1 2 9 0;person 5 0 1;person 6 0 2;person 1 1 2;wall 4 1;",
        "size 5 4;pond 2 1 0 3 1;eye 4 3 7 9 0;mirror 0 3 1 1 0;spoon 0 0 3 4 2;person 4 0 0;person 1 2 9;person 3 3 0;wall 3 2;",
        full(4, 20, 21, 33).replace("wall 4 3;", "")};
    String[] laws = {"", "cousins 1;twins;way 1;seats 7;", "cousins 9;way 2;seats 20;soup spoon;"};
    for (String parish : parishes) {
      for (String law : laws) {
        standBySums(parish, law);
        togetherBySums(parish, law);
        turnedBySums(parish, law);
        spoonBySeats(parish, law);
        barredBySums(parish, law);
      }
    }
  }

  private static int sum(Sketch s, String law) { return Due.census(s.text(), law).counted(0, 0, -1); }

  private static void standBySums(String parish, String law) {
    ReflectCensus c = Due.census(parish, law);
    for (int p = 0; p < c.parish(0, 2); p++) {
      for (boolean fewest : new boolean[] {false, true}) {
        int best = -1;
        int where = -1;
        Sketch told = new Sketch(parish);
        List<Integer> may = told.free();
        may.add(c.parish(0, 10 + p));
        for (int q : may) {
          Sketch s = new Sketch(parish);
          s.square[s.thing(true, p)] = q;
          int sum = sum(s, law);
          if (where < 0 || (fewest ? sum < best : sum > best) || sum == best && q < where) {
            best = sum;
            where = q;
          }
        }
        due.is(parish + law + " stand " + p, c.stand(0, 0, p, fewest, false), where);
        due.is(parish + law + " stand SUM " + p, c.stand(0, 0, p, fewest, true), best);
      }
    }
  }

  private static void togetherBySums(String parish, String law) {
    ReflectCensus c = Due.census(parish, law);
    for (int a = 0; a < c.parish(0, 2) && a < 3; a++) {
      int b = (a + 1) % c.parish(0, 2);
      if (a == b) continue;
      List<Integer> may = new Sketch(parish).free();
      may.add(c.parish(0, 10 + a));
      may.add(c.parish(0, 10 + b));
      int best = -1;
      int where = -1;
      for (int x : may) {
        for (int y : may) {
          if (x == y) continue;
          Sketch s = new Sketch(parish);
          s.square[s.thing(true, a)] = x;
          s.square[s.thing(true, b)] = y;
          int sum = sum(s, law);
          if (sum > best || sum == best && 64 * x + y < where) {
            best = sum;
            where = 64 * x + y;
          }
        }
      }
      due.is(parish + law + " together " + a, c.together(0, 0, a, b, false), where);
      due.is(parish + law + " together SUM " + a, c.together(0, 0, a, b, true), best);
    }
  }

  private static void turnedBySums(String parish, String law) {
    ReflectCensus c = Due.census(parish, law);
    for (int k = 0; k < c.parish(0, 3); k++) {
      int best = -1;
      int where = -1;
      for (int face = 0; face < 8; face++) {
        Sketch s = new Sketch(parish);
        int thing = s.thing(false, k);
        s.rest[thing] = " " + face + s.rest[thing].substring(2);
        int sum = sum(s, law);
        if (sum > best) {
          best = sum;
          where = face;
        }
      }
      due.is(parish + law + " turned " + k, c.turned(0, 0, k, false), where);
      due.is(parish + law + " turned SUM " + k, c.turned(0, 0, k, true), best);
    }
  }

  private static void spoonBySeats(String parish, String law) {
    ReflectCensus c = Due.census(parish, law);
    for (int party = 0; party < 4; party++) {
      int best = -1;
      int where = -1;
      Sketch s = new Sketch(parish);
      for (int q : s.free()) {
        for (int face = 0; face < 8; face++) {
          String more = s.text() + "spoon " + q % s.wide + " " + q / s.wide + " " + face + " 9 " + party + ";";
          int seats = Due.census(more, law).party(0, 0, party, true);
          if (seats > best) {
            best = seats;
            where = 8 * q + face;
          }
        }
      }
      due.is(parish + law + " spoon of " + party, c.spoon(0, 0, party, false), where);
      due.is(parish + law + " spoon SEATS of " + party, c.spoon(0, 0, party, true), best);
    }
  }

  private static void barredBySums(String parish, String law) {
    ReflectCensus c = Due.census(parish, law);
    int best = -1;
    int where = -1;
    Sketch s = new Sketch(parish);
    for (int q : s.free()) {
      int sum = Due.census(s.text() + "wall " + q % s.wide + " " + q / s.wide + ";", law).counted(0, 0, -1);
      if (where < 0 || sum < best) {
        best = sum;
        where = q;
      }
    }
    due.is(parish + law + " barred", c.barred(0, 0, false), where);
    due.is(parish + law + " barred SUM", c.barred(0, 0, true), best);
  }
}
