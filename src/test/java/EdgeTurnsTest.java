import java.util.ArrayList;
import java.util.List;

/** Every question answers for itself, whatever was asked before it, and of which PARISH, LAW, EVENING or SIGHT. */
public final class EdgeTurnsTest {
  private static final Due due = new Due("EdgeTurnsTest");

  private record Question(String name, int a, int b, int c, boolean first, boolean other) {
    int ask(ReflectCensus r, int parish, int law) {
      return switch (name) {
        case "looks" -> r.looks(parish, a, b);
        case "degree" -> r.degree(parish, a, b);
        case "counted" -> r.counted(parish, law, a);
        case "party" -> r.party(parish, law, a, first);
        case "stop" -> r.stop(parish, law, a);
        case "state" -> r.state(parish, law, a, b, c);
        case "stand" -> r.stand(parish, law, a, first, other);
        case "together" -> r.together(parish, law, a, b, first);
        case "turned" -> r.turned(parish, law, a, first);
        case "spoon" -> r.spoon(parish, law, a, first);
        case "prize" -> r.prize(parish, law, a, b);
        case "rest" -> r.rest(parish, law, a);
        case "way" -> r.way(parish, a, b);
        case "round" -> r.round(parish, a, b);
        case "fits" -> r.fits(parish, law, a, b);
        case "wind" -> r.wind(parish, law, a, first);
        case "clan" -> r.clan(parish, a);
        case "puddle" -> r.puddle(parish, law, first);
        case "drawn" -> r.drawn(parish, law, a, b, c);
        case "alone" -> r.alone(parish, a);
        case "barred" -> r.barred(parish, law, first);
        default -> r.known(parish, law, a);
      };
    }
  }

  private static final List<Question> QUESTIONS = new ArrayList<>();

  private static void add(String name, int a, int b, int c) { QUESTIONS.add(new Question(name, a, b, c, false, false)); }

  private static void addBoth(String name, int a, int b) {
    QUESTIONS.add(new Question(name, a, b, 0, false, true));
    QUESTIONS.add(new Question(name, a, b, 0, true, true));
  }

  private static void questions() {
    add("looks", 0, 3, 0);
    add("degree", 1, 1, 0);
    add("counted", -1, 0, 0);
    add("counted", 0, 0, 0);
    addBoth("party", 0, 0);
    addBoth("party", 1, 0);
    add("stop", 0, 0, 0);
    for (int what : new int[] {0, 1, 10, 20, 30, 40, 50, 60}) add("state", 0, 5, what);
    addBoth("stand", 0, 0);
    QUESTIONS.add(new Question("stand", 1, 0, 0, true, false));
    QUESTIONS.add(new Question("stand", 1, 0, 0, false, false));
    addBoth("together", 0, 1);
    addBoth("turned", 0, 0);
    addBoth("spoon", 1, 0);
    add("prize", 1, 36, 0);
    add("rest", -1, 0, 0);
    add("rest", 1, 0, 0);
    add("way", 0, 3, 0);
    add("round", 1, -1, 0);
    add("round", 0, 3, 0);
    for (int what : new int[] {0, 1, 2, 3, 4, 10, 11}) add("fits", 0, what, 0);
    addBoth("wind", 3, 0);
    add("clan", 1, 0, 0);
    addBoth("puddle", 0, 0);
    for (int what : new int[] {0, 1, 10, 20, 31, 40}) add("drawn", 99, 31, what);
    for (int what = 0; what < 4; what++) add("alone", what, 0, 0);
    addBoth("barred", 0, 0);
    add("known", 0, 0, 0);
    add("known", -1, 0, 0);
  }

  private static ReflectCensus fixture() {
    ReflectCensus c = Due.census("size 4 5;pond 1 1 0 9 0;spoon 3 4 0 9 1;eye 0 3 1 2 2;person 3 1 0;person 2 4 0;person 0 0 1;wall 2 2;wall 3 3;", "cousins 2;tax 3;",
        "count;turn 1 7;stir 0;count;go 0 6;", "told 0 2;told 1 1;slips 2;");
    Due.tell(c, 0, "size 5 4;mirror 0 0 3 9 1;spoon 4 3 7 1 0;person 2 2 4;person 4 0 4;wall 3 1;");
    Due.tell(c, 1, "twins;soup pond;seats 3;way 2;");
    return c;
  }

  public static void main(String[] args) {
    questions();
    everyTwo();
    everyTwoSizes();
    everyQuestionTwice();
    theLastOfAllCalls();
    due.end();
  }

  /** One question, and then another one of this PARISH or the other, under this LAW or the other. */
  private static void everyTwo() {
    int[][] fresh = new int[4][QUESTIONS.size()];
    for (int k = 0; k < 4; k++) for (int q = 0; q < QUESTIONS.size(); q++) fresh[k][q] = QUESTIONS.get(q).ask(fixture(), k / 2, k % 2);
    for (int before = 0; before < QUESTIONS.size(); before++) {
      for (int k = 0; k < 4; k++) {
        ReflectCensus c = fixture();
        for (int q = 0; q < QUESTIONS.size(); q++) {
          QUESTIONS.get(before).ask(c, (before + q) / 2 % 2, (before + q) % 2);
          due.is(QUESTIONS.get(q) + " behind " + QUESTIONS.get(before), QUESTIONS.get(q).ask(c, k / 2, k % 2), fresh[k][q]);
        }
      }
    }
  }

  private static void everyQuestionTwice() {
    for (Question q : QUESTIONS) {
      ReflectCensus c = fixture();
      int first = q.ask(c, 0, 0);
      for (int k = 0; k < 3; k++) due.is(q + " again", q.ask(c, 0, 0), first);
    }
  }

  /** Two PARISHES of any two sizes by turns: the ends of the one are not the other's. */
  private static void everyTwoSizes() {
    for (int one = 0; one < 49; one++) {
      for (int two = 0; two < 49; two++) {
        int[] wide = {2 + one % 7, 2 + two % 7};
        int[] high = {2 + one / 7, 2 + two / 7};
        ReflectCensus c = new ReflectCensus();
        for (int k = 0; k < 2; k++) Due.tell(c, 0, "size " + wide[k] + " " + high[k] + ";pond 0 0 0 9 0;person " + (wide[k] - 1) + " 0 0;person 0 " + (high[k] - 1) + " 0;");
        c.text(1, -1);
        for (String evening : new String[] {"go 1 4;", "go 0 2;"}) Due.tell(c, 2, evening);
        for (int k : new int[] {0, 1, 0, 1}) {
          String name = wide[k] + " by " + high[k] + " behind " + wide[1 - k] + " by " + high[1 - k];
          due.is(name + " right", c.looks(k, 0, 2), 0);
          due.is(name + " down", c.looks(k, 0, 4), 1);
          due.is(name + " SUM", c.counted(k, 0, -1), 2);
        }
        for (int k : new int[] {0, 1, 0, 1}) due.is("the WAY across", c.way(k, 0, wide[k] * high[k] - 1), wide[k] + high[k] - 2);
        for (int k : new int[] {0, 1, 0, 1}) due.is("the ROUND from the last", c.round(k, wide[k] * high[k] - 1, -1), wide[k] + high[k] - 2);
        for (int k : new int[] {0, 1, 0, 1}) for (int e = 0; e < 2; e++) due.is("no step out", c.stop(k, 0, e), 0);
      }
    }
  }

  /** "at most 512 calls": the 512th is answered as the first, after texts, images and feeds without an end. */
  private static void theLastOfAllCalls() {
    ReflectCensus c = new ReflectCensus();
    for (int call = 1; call <= 508; call += 4) {
      int tax = call / 4 % 10;
      due.is("feed in call " + call, c.feed(0x74617820, '0' + tax << 24 | ';' << 16 | 0x2020, 0x20202020, 0x20202020, 0x20202020), 20);
      due.is("text", c.text(1, call < 9 ? -1 : call / 4 % 2), call / 4 % 2);
      due.is("TAX", c.law(call / 4 % 2, 5), tax);
      due.is("image", c.image(call / 4 % 3), true);
    }
    due.is("call 509", c.law(1, 5), 5);
    due.is("call 510", c.again(2), true);
    due.is("call 511", c.law(0, 5), 4);
    due.is("call 512", c.law(1, 5), 5);
  }
}
