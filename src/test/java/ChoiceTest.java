/** Promises 16 to 21 and 31: STAND, TOGETHER, TURN, SPOON, the GAME, BARRED. */
public final class ChoiceTest {
  private static final Due due = new Due("ChoiceTest");

  public static void main(String[] args) {
    stand();
    together();
    turned();
    spoon();
    game();
    barred();
    due.end();
  }

  private static void stands(ReflectCensus c, int law, int person, int fewest, int fewestSum, int most, int mostSum) {
    due.is("fewest", c.stand(0, law, person, true, false), fewest);
    due.is("fewest SUM", c.stand(0, law, person, true, true), fewestSum);
    due.is("most", c.stand(0, law, person, false, false), most);
    due.is("most SUM", c.stand(0, law, person, false, true), mostSum);
  }

  private static void stand() {
    ReflectCensus c = Due.census("size 3 2;spoon 0 0 2 9 0;person 0 1 0;", "");
    stands(c, 0, 0, 3, 0, 1, 1);
    // his own SQUARE counts too, and no SQUARE of another
    ReflectCensus d = Due.census("size 3 2;spoon 0 0 2 9 0;person 1 0 0;person 2 0 0;wall 0 1;wall 1 1;wall 2 1;", "");
    stands(d, 0, 0, 1, 1, 1, 1);
    stands(d, 0, 1, 2, 1, 2, 1);
    // before the one who is seen from both sides he is seen in his stead: SUM is alike, so the least SQUARE
    ReflectCensus e = Due.census("size 4 2;eye 0 0 2 9 0;person 2 0 0;person 3 1 1;wall 0 1;wall 1 1;wall 2 1;spoon 3 0 6 9 1;", "");
    stands(e, 0, 1, 1, 2, 1, 2);
    stands(Due.census("size 2 2;spoon 1 0 6 9 0;person 1 1 0;", ""), 0, 0, 2, 0, 0, 1);
    stands(Due.census("size 2 2;spoon 1 0 0 9 0;person 1 1 0;", ""), 0, 0, 0, 0, 0, 0);
    due.is("no such person", c.stand(0, 0, 1, true, true), -1);
    due.is("no such person", c.stand(0, 0, -1, true, true), -1);
    due.is("no such parish", c.stand(1, 0, 0, true, true), -1);
    due.is("no such law", c.stand(0, 1, 0, true, true), -1);
    due.is("all is as told", c.square(0, 3), 10);
  }

  private static void together() {
    ReflectCensus c = Due.census("size 3 2;pond 0 0 0 9 0;person 2 1 0;person 2 0 1;", "");
    due.is("where", c.together(0, 0, 0, 1, false), 64 * 1 + 3);
    due.is("SUM", c.together(0, 0, 0, 1, true), 2);
    due.is("the other way", c.together(0, 0, 1, 0, false), 64 * 1 + 3);
    Due.tell(c, 1, "soup pond;");
    due.is("none counted: the least number", c.together(0, 1, 0, 1, false), 64 * 1 + 2);
    due.is("none counted", c.together(0, 1, 0, 1, true), 0);
    // no SQUARE is FREE: as they are, or each on the other's
    ReflectCensus d = Due.census("size 2 2;spoon 0 0 2 9 0;person 0 1 0;person 1 0 1;wall 1 1;", "");
    due.is("both may change places", d.together(0, 0, 0, 1, false), 64 * 1 + 2);
    due.is("both may change places", d.together(0, 0, 1, 0, false), 64 * 1 + 2);
    ReflectCensus e = Due.census("size 2 2;pond 1 1 0 9 0;person 1 0 0;person 0 1 1;", "");
    due.is("from SQUARE 0 on", e.together(0, 0, 0, 1, false), 1);
    due.is("from SQUARE 0 on", e.together(0, 0, 0, 1, true), 2);
    ReflectCensus f = Due.census("size 2 2;pond 1 0 0 9 0;person 0 1 0;person 1 1 1;wall 0 0;", "");
    due.is("from SQUARE 2 on", f.together(0, 0, 0, 1, false), 64 * 2 + 3);
    // the mirror sees SQUARE 0 and a twin of the first one, so the other had better stand there
    ReflectCensus g = Due.census("size 3 2;mirror 1 1 7 9 0;person 2 0 1;person 2 1 2;person 0 1 1;wall 1 0;", "twins;");
    due.is("the other on SQUARE 0", g.together(0, 0, 0, 1, true), 2);
    due.is("the other on SQUARE 0", g.together(0, 0, 0, 1, false), 64 * 2);
    due.is("both are one", c.together(0, 0, 1, 1, true), -1);
    due.is("no such person", c.together(0, 0, 0, 2, true), -1);
    due.is("no such person", c.together(0, 0, 2, 0, true), -1);
    due.is("no such person", c.together(0, 0, -1, 0, true), -1);
    due.is("no such parish", c.together(1, 0, 0, 1, true), -1);
    due.is("no such law", c.together(0, 2, 0, 1, true), -1);
  }

  private static void turned() {
    ReflectCensus c = Due.census("size 3 3;spoon 1 1 0 9 0;person 2 2 0;person 0 2 1;", "");
    due.is("FACE", c.turned(0, 0, 0, false), 3);
    due.is("SUM", c.turned(0, 0, 0, true), 1);
    ReflectCensus d = Due.census("size 3 3;mirror 1 1 0 9 0;person 2 2 0;person 0 2 1;pond 0 0 5 1 1;", "");
    due.is("FACE of a mirror", d.turned(0, 0, 0, false), 4);
    due.is("SUM of all", d.turned(0, 0, 0, true), 3);
    due.is("a pond's least", d.turned(0, 0, 1, false), 0);
    due.is("no such shine", c.turned(0, 0, 1, true), -1);
    due.is("no such shine", c.turned(0, 0, -1, true), -1);
    due.is("no such parish", c.turned(1, 0, 0, true), -1);
    due.is("no such law", c.turned(0, 1, 0, true), -1);
  }

  private static void spoon() {
    // FREE are 1 and 2; one who is at 3 is seen from 1 downwards left (5), from 2 not
    ReflectCensus c = Due.census("size 3 2;wall 0 0;person 0 1 0;wall 1 1;wall 2 1;", "seats 4;");
    due.is("where", c.spoon(0, 0, 2, false), 8 * 1 + 5);
    due.is("SEATS", c.spoon(0, 0, 2, true), 4);
    due.is("another party", c.spoon(0, 0, 0, false), 8 * 1 + 5);
    Due.tell(c, 1, "soup spoon;");
    due.is("SOUP: the least", c.spoon(0, 1, 0, false), 8 * 1);
    due.is("SOUP: none", c.spoon(0, 1, 0, true), 0);
    // it may help by being in the way: party 1's spoon at 0 sees him at 3 through 1, 2
    ReflectCensus d = Due.census("size 4 2;spoon 0 0 2 9 1;person 3 0 0;wall 0 1;wall 1 1;wall 2 1;wall 3 1;", "seats 3;");
    due.is("in the way", d.spoon(0, 0, 0, true), 3);
    due.is("in the way, looking right", d.spoon(0, 0, 0, false), 8 * 1 + 2);
    due.is("SIZE 9 and TWINS", Due.census("size 3 2;person 0 0 0;", "").spoon(0, 0, 3, false), 8 * 1 + 6);
    due.is("on SQUARE 0", Due.census("size 2 2;person 0 1 0;", "").spoon(0, 0, 3, false), 4);
    due.is("no party", c.spoon(0, 0, 4, true), -1);
    due.is("no party", c.spoon(0, 0, -1, true), -1);
    due.is("no parish", c.spoon(1, 0, 0, true), -1);
    due.is("no law", c.spoon(0, 2, 0, true), -1);
    due.is("no SQUARE is FREE", Due.census("size 2 2;wall 0 0;wall 1 0;wall 0 1;person 1 1 0;", "").spoon(0, 0, 0, true), -1);
    StringBuilder t = new StringBuilder("size 8 8;person 0 7 0;");
    for (int k = 0; k < 7; k++) t.append("spoon " + k + " 0 0 1 0;");
    due.is("7 shines", Due.census(t.toString(), "").spoon(0, 0, 1, true), 5);
    t.append("eye 7 0 0 1 0;");
    due.is("8 shines", Due.census(t.toString(), "").spoon(0, 0, 1, true), -1);
    due.is("8 shines", Due.census(t.toString(), "").spoon(0, 0, 1, false), -1);
  }

  private static final String GAME = "size 3 2;spoon 0 0 0 9 0;spoon 2 0 0 9 1;person 0 1 0;person 2 1 1;";

  private static void game() {
    ReflectCensus c = Due.census(GAME, "");
    for (int couple = 0; couple < 64; couple++) {
      due.is("prize of 0 by " + couple, c.prize(0, 0, 0, couple), couple / 8 == 4 ? 1 : 0);
      due.is("prize of 1 by " + couple, c.prize(0, 0, 1, couple), couple % 8 == 4 ? 1 : 0);
    }
    due.is("rests", c.rest(0, 0, -1), 1);
    due.is("the rest", c.rest(0, 0, 0), 36);
    due.is("no second", c.rest(0, 0, 1), -1);
    due.is("no such", c.rest(0, 0, -2), -1);
    Due.tell(c, 1, "cousins 1;");
    due.is("rests among cousins", c.rest(0, 1, -1), 3);
    int[] want = {20, 36, 38};
    for (int k = 0; k < 3; k++) due.is("rest " + k, c.rest(0, 1, k), want[k]);
    due.is("no fourth", c.rest(0, 1, 3), -1);
    due.is("by a cousin", c.prize(0, 1, 0, 20), 1);
    due.is("each at the other", c.prize(0, 1, 0, 22), 0);
    for (int couple : new int[] {-1, 64}) due.is("no couple", c.prize(0, 0, 0, couple), -1);
    for (int who : new int[] {-1, 2}) due.is("no such who", c.prize(0, 0, who, 0), -1);
    due.is("no parish", c.prize(1, 0, 0, 0), -1);
    due.is("no law", c.prize(0, 2, 0, 0), -1);
    due.is("no parish", c.rest(1, 0, -1), -1);
    due.is("no law", c.rest(0, 2, -1), -1);
    for (int other = 0; other < 2; other++) {
      ReflectCensus d = Due.census("spoon 0 0 0 1 " + other + ";spoon 1 0 0 1 2;", "");
      due.is("one has none", d.prize(0, 0, 0, 0), -1);
      due.is("one has none", d.prize(0, 0, 1, 0), -1);
      due.is("one has none", d.rest(0, 0, -1), -1);
    }
    ReflectCensus ponds = Due.census("size 3 2;pond 0 1 3 9 0;pond 2 1 3 9 1;person 0 0 0;person 2 0 1;", "");
    due.is("all couples are rests", ponds.rest(0, 0, -1), 64);
    for (int k = 0; k < 64; k++) due.is("the k-th", ponds.rest(0, 0, k), k);
    for (int face = 0; face < 2; face++) {
      ReflectCensus up = Due.census("size 3 2;spoon 0 1 3 9 " + face + ";spoon 2 1 3 9 " + (1 - face) + ";person 0 0 0;person 2 0 1;", "");
      due.is("one rest", up.rest(0, 0, -1), 1);
      due.is("both up", up.rest(0, 0, 0), 0);
    }
    // the TOTAL is of all a PARTY's SHINES, of which only the least is turned
    ReflectCensus e = Due.census("size 3 2;spoon 0 0 0 9 0;spoon 2 0 0 9 1;person 0 1 0;person 2 1 1;spoon 1 0 3 9 0;", "");
    due.is("both of them", e.prize(0, 0, 0, 32), 2);
    due.is("the other alone", e.prize(0, 0, 0, 0), 1);
  }

  private static void barred() {
    ReflectCensus c = Due.census("size 4 2;spoon 0 0 2 9 0;person 3 0 0;", "");
    due.is("where", c.barred(0, 0, false), 1);
    due.is("SUM", c.barred(0, 0, true), 0);
    ReflectCensus d = Due.census("size 4 2;spoon 0 0 2 9 0;person 1 0 0;", "");
    due.is("none helps: the least", d.barred(0, 0, false), 2);
    due.is("none helps", d.barred(0, 0, true), 1);
    due.is("SQUARE 0", Due.census("size 2 2;pond 1 1 0 9 0;person 1 0 0;", "").barred(0, 0, false), 0);
    due.is("no SQUARE is FREE", Due.census("size 2 2;wall 0 0;wall 1 0;wall 0 1;pond 1 1 0 1 0;", "").barred(0, 0, true), -1);
    due.is("no SQUARE is FREE", Due.census("size 2 2;wall 0 0;wall 1 0;wall 0 1;pond 1 1 0 1 0;", "").barred(0, 0, false), -1);
    due.is("no parish", c.barred(1, 0, true), -1);
    due.is("no law", c.barred(0, 1, true), -1);
    due.is("all is as told", c.square(0, 1), 0);
  }
}
