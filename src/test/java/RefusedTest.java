import java.util.ArrayList;
import java.util.List;
import java.util.function.IntPredicate;

/** Every number of every question: which can be, what is answered for all others, and that nothing is changed by asking. */
public final class RefusedTest {
  private static final Due due = new Due("RefusedTest");

  private interface Call { int ask(ReflectCensus c, int n); }

  private static final String PARISH = "size 8 7;pond 1 1 0 9 0;spoon 5 2 1 8 1;mirror 2 5 2 7 2;eye 6 6 3 6 3;pond 0 6 4 5 0;spoon 4 4 5 4 1;eye 7 0 6 3 0;"
      + "person 0 0 0;person 7 6 1;person 3 3 2;person 3 0 3;person 0 3 4;person 6 3 5;person 3 6 9;person 1 4 7;wall 7 5;";
  private static final String OTHER = "size 3 2;pond 0 0 0 2 0;spoon 2 0 4 1 1;person 2 1 5;";
  private static final String TAPE = "cousins 4;";

  public static void main(String[] args) {
    numbers();
    ofParishes();
    ofPeopleAndShines();
    ofEveningsAndSights();
    whats();
    ofAll();
    withFewer();
    wild();
    due.end();
  }

  /** All small ones, and those that come down to small ones if they are multiplied, shifted or cut. */
  private static final List<Integer> NUMBERS = new ArrayList<>();

  private static void numbers() {
    for (int n = -30; n <= 130; n++) NUMBERS.add(n);
    for (int n : new int[] {255, 256, 257, 511, 512, 513, 600, 1000}) NUMBERS.add(n);
    for (int bit = 10; bit < 32; bit++) {
      NUMBERS.add(1 << bit);
      NUMBERS.add((1 << bit) + 1);
      NUMBERS.add((1 << bit) - 1);
      NUMBERS.add(-(1 << bit) + 10);
    }
    for (int n = 0; n < 20; n++) {
      NUMBERS.add(Integer.MAX_VALUE - n);
      NUMBERS.add(Integer.MIN_VALUE + n);
    }
  }

  private static ReflectCensus fixture() {
    ReflectCensus c = Due.census(PARISH, "cousins 2;tax 3;seats 9;", "stir 0;calm 0;turn 3 1;count;", "told 0 3;slips 9;");
    Due.tell(c, 0, OTHER);
    Due.tell(c, 1, "twins;way 1;");
    Due.tell(c, 2, "count;go 0 7;");
    Due.tell(c, 3, "told 1 1;");
    Due.feed(c, "?");
    c.text(0, 0);
    Due.feed(c, TAPE);
    return c;
  }

  /** What can be asked of the fixture about all that is told, told as one text. */
  private static String print(ReflectCensus c) {
    StringBuilder t = new StringBuilder();
    t.append(c.fault(0)).append(' ').append(c.fault(1)).append(' ').append(c.end(TAPE.length() + 1)).append(' ').append(c.end(TAPE.length()));
    for (int sort = 0; sort < 4; sort++) t.append(" n").append(c.count(sort));
    for (int w = 0; w < 4; w++) t.append(' ').append(c.parish(0, w)).append(' ').append(c.parish(1, w));
    for (int k = 0; k < 8; k++) for (int w = 10; w < 80; w += 10) t.append(' ').append(c.parish(0, w + k));
    for (int w = 0; w < 6; w++) t.append(' ').append(c.law(0, w)).append(' ').append(c.law(1, w)).append(' ').append(c.square(1, w));
    for (int e = 0; e < 2; e++) for (int k = 0; k < 4; k++) for (int w = 0; w < 3; w++) t.append(' ').append(c.deed(e, k, w));
    for (int w = 0; w < 9; w++) t.append(' ').append(c.sight(0, w == 0 ? 0 : 9 + w)).append(' ').append(c.sight(1, w == 0 ? 0 : 9 + w));
    t.append(" text ").append(c.text(1, 0)).append(' ').append(c.law(0, 0));
    return t.toString();
  }

  /** For numbers that can be the answer is not the refusal, for all others it is; no more than 512 calls an object. */
  private static void sweep(String name, int refusal, IntPredicate canBe, Call call) {
    String whole = print(fixture());
    for (int from = 0; from < NUMBERS.size(); from += 100) {
      ReflectCensus c = fixture();
      for (int n : NUMBERS.subList(from, Math.min(from + 100, NUMBERS.size()))) {
        int got = call.ask(c, n);
        String asked = name + " by " + n + " answered " + got + ", which";
        due.is(asked, got == refusal, !canBe.test(n));
      }
      due.is("nothing is changed by " + name, print(c).equals(whole), true);
    }
  }

  private static IntPredicate upTo(int most) { return n -> n >= 0 && n <= most; }

  private static IntPredicate orNone(int most) { return n -> n >= -1 && n <= most; }

  private static void ofParishes() {
    IntPredicate two = upTo(1);
    sweep("parish", -1, two, (c, n) -> c.parish(n, 0));
    sweep("square", -1, two, (c, n) -> c.square(n, 0));
    sweep("looks", -2, two, (c, n) -> c.looks(n, 0, 0));
    sweep("degree", -2, two, (c, n) -> c.degree(n, 0, 0));
    sweep("counted", -1, two, (c, n) -> c.counted(n, 0, 0));
    sweep("party", -1, two, (c, n) -> c.party(n, 0, 0, false));
    sweep("party seats", -1, two, (c, n) -> c.party(n, 0, 0, true));
    sweep("stop", -1, two, (c, n) -> c.stop(n, 0, 0));
    sweep("state", -2, two, (c, n) -> c.state(n, 0, 0, 0, 0));
    sweep("stand", -1, two, (c, n) -> c.stand(n, 0, 0, true, false));
    sweep("together", -1, n -> n == 0, (c, n) -> c.together(n, 0, 0, 1, false));
    sweep("turned", -1, two, (c, n) -> c.turned(n, 0, 0, false));
    sweep("spoon", -1, two, (c, n) -> c.spoon(n, 0, 0, false));
    sweep("prize", -1, two, (c, n) -> c.prize(n, 0, 0, 0));
    sweep("rest", -1, two, (c, n) -> c.rest(n, 0, -1));
    sweep("way", -1, two, (c, n) -> c.way(n, 0, 0));
    sweep("round", -2, two, (c, n) -> c.round(n, 0, 0));
    sweep("fits", -2, two, (c, n) -> c.fits(n, 0, 0, 0));
    sweep("wind", -1, two, (c, n) -> c.wind(n, 0, 1, false));
    sweep("clan", -1, two, (c, n) -> c.clan(n, 0));
    sweep("puddle", -1, two, (c, n) -> c.puddle(n, 0, false));
    sweep("drawn", -2, two, (c, n) -> c.drawn(n, 0, 0, 0, 0));
    sweep("alone", -2, two, (c, n) -> c.alone(n, 0));
    sweep("barred", -1, two, (c, n) -> c.barred(n, 0, false));
    sweep("known", -1, two, (c, n) -> c.known(n, 0, 0));
    sweep("known most", -1, two, (c, n) -> c.known(n, 0, -1));
    ofLaws(two);
  }

  private static void ofLaws(IntPredicate two) {
    sweep("law", -1, two, (c, n) -> c.law(n, 3));
    sweep("counted, law", -1, two, (c, n) -> c.counted(0, n, -1));
    sweep("party, law", -1, two, (c, n) -> c.party(0, n, 3, false));
    sweep("party seats, law", -1, two, (c, n) -> c.party(0, n, 3, true));
    sweep("stop, law", -1, two, (c, n) -> c.stop(0, n, 0));
    sweep("state, law", -2, two, (c, n) -> c.state(0, n, 0, 0, 0));
    sweep("stand, law", -1, two, (c, n) -> c.stand(0, n, 7, false, true));
    sweep("together, law", -1, two, (c, n) -> c.together(0, n, 6, 7, true));
    sweep("turned, law", -1, two, (c, n) -> c.turned(0, n, 6, true));
    sweep("spoon, law", -1, two, (c, n) -> c.spoon(0, n, 3, true));
    sweep("prize, law", -1, two, (c, n) -> c.prize(0, n, 1, 63));
    sweep("rest, law", -1, two, (c, n) -> c.rest(0, n, -1));
    sweep("fits, law", -2, two, (c, n) -> c.fits(0, n, 0, 3));
    sweep("wind, law", -1, two, (c, n) -> c.wind(0, n, 9, true));
    sweep("puddle, law", -1, two, (c, n) -> c.puddle(0, n, true));
    sweep("drawn, law", -2, two, (c, n) -> c.drawn(0, n, 0, 40, 0));
    sweep("barred, law", -1, two, (c, n) -> c.barred(0, n, true));
    sweep("known, law", -1, two, (c, n) -> c.known(0, n, 7));
    sweep("known most, law", -1, two, (c, n) -> c.known(0, n, -1));
  }

  private static void ofPeopleAndShines() {
    sweep("square's square", -1, upTo(55), (c, n) -> c.square(0, n));
    sweep("square's square of 3 by 2", -1, upTo(5), (c, n) -> c.square(1, n));
    sweep("looks, shine", -2, upTo(6), (c, n) -> c.looks(0, n, 0));
    sweep("looks, shine of two", -2, upTo(1), (c, n) -> c.looks(1, n, 7));
    sweep("looks, direction", -2, upTo(7), (c, n) -> c.looks(0, 1, n));
    sweep("degree, shine", -2, upTo(6), (c, n) -> c.degree(0, n, 7));
    sweep("degree, person", -2, upTo(7), (c, n) -> c.degree(0, 6, n));
    sweep("degree, person of one", -2, upTo(0), (c, n) -> c.degree(1, 1, n));
    sweep("counted, shine", -1, orNone(6), (c, n) -> c.counted(0, 0, n));
    sweep("counted, shine of two", -1, orNone(1), (c, n) -> c.counted(1, 0, n));
    sweep("party, party", -1, upTo(3), (c, n) -> c.party(0, 0, n, false));
    sweep("party seats, party", -1, upTo(3), (c, n) -> c.party(0, 0, n, true));
    for (boolean a : new boolean[] {false, true}) {
      for (boolean b : new boolean[] {false, true}) sweep("stand, person", -1, upTo(7), (c, n) -> c.stand(0, 0, n, a, b));
      sweep("stand, person of one", -1, upTo(0), (c, n) -> c.stand(1, 0, n, a, true));
      sweep("together, first", -1, n -> n >= 0 && n <= 7 && n != 3, (c, n) -> c.together(0, 0, n, 3, a));
      sweep("together, other", -1, n -> n >= 0 && n <= 7 && n != 3, (c, n) -> c.together(0, 0, 3, n, a));
      sweep("together, one twice", -1, n -> false, (c, n) -> c.together(0, 0, n, n, a));
      sweep("together, of one", -1, n -> false, (c, n) -> c.together(1, 0, 0, n, a));
      sweep("turned, shine", -1, upTo(6), (c, n) -> c.turned(0, 0, n, a));
      sweep("spoon, party", -1, upTo(3), (c, n) -> c.spoon(0, 0, n, a));
      sweep("wind, n", -1, n -> n >= 1 && n <= 9, (c, n) -> c.wind(0, 0, n, a));
    }
    sweep("prize, who", -1, upTo(1), (c, n) -> c.prize(0, 0, n, 0));
    sweep("prize, couple", -1, upTo(63), (c, n) -> c.prize(0, 0, 0, n));
    sweep("prize, couple of 1", -1, upTo(63), (c, n) -> c.prize(0, 0, 1, n));
    int rests = fixture().rest(0, 0, -1);
    sweep("rest", -1, orNone(rests - 1), (c, n) -> c.rest(0, 0, n));
    sweep("clan, shine", -1, upTo(6), (c, n) -> c.clan(0, n));
    sweep("known, person", -1, orNone(7), (c, n) -> c.known(0, 0, n));
    sweep("known, person of one", -1, orNone(0), (c, n) -> c.known(1, 0, n));
    // the WALL on 47 is none to go from or to
    sweep("way, from", -1, n -> n >= 0 && n <= 55 && n != 47, (c, n) -> c.way(0, n, 0));
    sweep("way, to", -1, n -> n >= 0 && n <= 55 && n != 47, (c, n) -> c.way(0, 0, n));
    sweep("way, from and to", -1, n -> n >= 0 && n <= 55 && n != 47, (c, n) -> c.way(0, n, n));
    sweep("round, from", -2, n -> n >= 0 && n <= 55 && n != 47, (c, n) -> c.round(0, n, -1));
    sweep("round, t", -2, orNone(99), (c, n) -> c.round(0, 0, n));
    sweep("round, t of 3 by 2", -2, orNone(99), (c, n) -> c.round(1, 5, n));
  }

  private static void ofEveningsAndSights() {
    IntPredicate two = upTo(1);
    sweep("deed, evening", -2, two, (c, n) -> c.deed(n, -1, 0));
    sweep("deed, evening, k 0", -2, two, (c, n) -> c.deed(n, 0, 2));
    sweep("deed, k", -2, orNone(3), (c, n) -> c.deed(0, n, 0));
    sweep("deed, k of two", -2, orNone(1), (c, n) -> c.deed(1, n, 0));
    sweep("deed, k, its first number", -2, upTo(3), (c, n) -> c.deed(0, n, 1));
    sweep("deed, k, its other number", -2, upTo(3), (c, n) -> c.deed(0, n, 2));
    sweep("deed, what", -2, upTo(2), (c, n) -> c.deed(0, 3, n));
    sweep("deed, what of how many", -2, n -> n == 0, (c, n) -> c.deed(0, -1, n));
    sweep("stop, evening", -1, two, (c, n) -> c.stop(0, 0, n));
    sweep("state, evening", -2, two, (c, n) -> c.state(0, 0, n, 0, 1));
    sweep("state, n", -2, upTo(4), (c, n) -> c.state(0, 0, 0, n, 1));
    // his first step leads onto nothing: STOP is 1
    sweep("state, n up to STOP", -2, upTo(1), (c, n) -> c.state(0, 0, 1, n, 1));
    sweep("drawn, n", -2, upTo(40), (c, n) -> c.drawn(0, 0, 77, n, 1));
    sweep("drawn, n of 3 by 2", -2, upTo(40), (c, n) -> c.drawn(1, 1, -77, n, 10));
    sweep("drawn, any seed", -2, n -> true, (c, n) -> c.drawn(0, 0, n, 40, 0));
    sweep("sight", -2, two, (c, n) -> c.sight(n, 0));
    sweep("sight, a COUNT", -2, two, (c, n) -> c.sight(n, 17));
    sweep("fits, sight", -2, two, (c, n) -> c.fits(0, 0, n, 0));
    sweep("fits, sight, FALSE", -2, two, (c, n) -> c.fits(1, 1, n, 3));
  }

  private static void whats() {
    // 0 to 3, and rows of ten with as many as there are: 8 PEOPLE, 7 SHINES
    IntPredicate rows = n -> n >= 10 && n < 30 && n % 10 < 8 || n >= 30 && n % 10 < 7;
    sweep("parish, what", -1, n -> n >= 0 && n <= 3 || rows.test(n) && n < 80, (c, n) -> c.parish(0, n));
    IntPredicate one = n -> n == 10 || n == 20 || n >= 30 && n < 80 && n % 10 < 2;
    sweep("parish, what of 3 by 2", -1, n -> n >= 0 && n <= 3 || one.test(n), (c, n) -> c.parish(1, n));
    sweep("law, what", -1, upTo(5), (c, n) -> c.law(0, n));
    sweep("state, what", -2, n -> n == 0 || n == 1 || rows.test(n) && n < 70, (c, n) -> c.state(0, 0, 0, 4, n));
    sweep("state, what of 3 by 2", -2, n -> n == 0 || n == 1 || one.test(n) && n < 70, (c, n) -> c.state(1, 0, 0, 2, n));
    sweep("drawn, what", -2, n -> n == 0 || n == 1 || rows.test(n) && n < 70 && n / 10 != 5, (c, n) -> c.drawn(0, 0, 5, 9, n));
    sweep("drawn, what, n 0", -2, n -> n == 0 || n == 1 || one.test(n) && n < 70 && n / 10 != 5, (c, n) -> c.drawn(1, 0, 5, 0, n));
    sweep("sight, what", -2, n -> n == 0 || n >= 10 && n <= 17, (c, n) -> c.sight(0, n));
    sweep("alone, what", -2, upTo(3), (c, n) -> c.alone(0, n));
    int sets = fixture().fits(0, 0, 0, 0);
    sweep("fits, what", -2, n -> n >= 0 && n <= 4 || n >= 10 && n < 10 + sets, (c, n) -> c.fits(0, 0, 0, n));
    sweep("fits, what of one PERSON", -2, n -> n >= 0 && n <= 4 || n == 10, (c, n) -> c.fits(1, 0, 1, n));
    sweep("count", -2, upTo(3), (c, n) -> c.count(n));
  }

  /** fault(), end(), image() and again() have answers of their own for what can't be. */
  private static void ofAll() {
    String whole = print(fixture());
    for (int n : NUMBERS) {
      ReflectCensus c = fixture();
      if (n != 0 && n != 1) due.is("fault(" + n + ")", c.fault(n), -1);
      if (n < 0 || n > TAPE.length()) due.is("end(" + n + ")", c.end(n), -1);
      due.is("again(" + n + ")", c.again(n), false);
      due.is("image(" + n + ")", c.image(n), n >= 0 && n <= 2);
      due.is("again(" + n + ") behind it", c.again(n), n >= 0 && n <= 2);
      due.is("nothing is changed", print(c).equals(whole), true);
      if (n == -1 || n == 0 || n == 1) continue;
      for (int sort = 0; sort < 4; sort++) due.is("text(" + sort + ", " + n + ")", c.text(sort, n), -2);
      if (n == 2 || n == 3) continue;
      due.is("text(" + n + ", -1)", c.text(n, -1), -2);
      due.is("text(" + n + ", 0)", c.text(n, 0), -2);
    }
  }

  /** A question about what there is none of yet, or only one of. */
  private static void withFewer() {
    for (int have = 0; have < 2; have++) {
      ReflectCensus c = have == 0 ? new ReflectCensus() : Due.census(OTHER, "", "count;", "");
      for (int n = have; n < 3; n++) {
        due.is("parish", c.parish(n, 0), -1);
        due.is("square", c.square(n, 0), -1);
        due.is("law", c.law(n, 0), -1);
        due.is("deed", c.deed(n, -1, 0), -2);
        due.is("deed", c.deed(n, 0, 0), -2);
        due.is("looks", c.looks(n, 0, 0), -2);
        due.is("degree", c.degree(n, 0, 0), -2);
        due.is("round", c.round(n, 0, 0), -2);
        due.is("round", c.round(n, 0, -1), -2);
        due.is("way", c.way(n, 0, 0), -1);
        due.is("clan", c.clan(n, 0), -1);
        due.is("alone", c.alone(n, 3), -2);
        due.is("sight", c.sight(n, 0), -2);
        due.is("sight", c.sight(n, 10), -2);
        withFewer(c, n, 0);
        withFewer(c, 0, n);
        due.is("stop", c.stop(0, 0, n), -1);
        due.is("state", c.state(0, 0, n, 0, 0), -2);
        due.is("fits", c.fits(0, 0, n, 0), -2);
      }
    }
  }

  private static void withFewer(ReflectCensus c, int parish, int law) {
    for (boolean b : new boolean[] {false, true}) {
      due.is("party", c.party(parish, law, 0, b), -1);
      due.is("stand", c.stand(parish, law, 0, b, true), -1);
      due.is("stand", c.stand(parish, law, 0, b, false), -1);
      due.is("together", c.together(parish, law, 0, 1, b), -1);
      due.is("turned", c.turned(parish, law, 0, b), -1);
      due.is("spoon", c.spoon(parish, law, 0, b), -1);
      due.is("wind", c.wind(parish, law, 1, b), -1);
      due.is("puddle", c.puddle(parish, law, b), -1);
      due.is("barred", c.barred(parish, law, b), -1);
    }
    due.is("counted", c.counted(parish, law, -1), -1);
    due.is("counted", c.counted(parish, law, 0), -1);
    due.is("stop", c.stop(parish, law, 0), -1);
    due.is("state", c.state(parish, law, 0, 0, 0), -2);
    due.is("prize", c.prize(parish, law, 0, 0), -1);
    due.is("rest", c.rest(parish, law, -1), -1);
    due.is("fits", c.fits(parish, law, 0, 0), -2);
    due.is("drawn", c.drawn(parish, law, 0, 0, 0), -2);
    due.is("known", c.known(parish, law, 0), -1);
    due.is("known", c.known(parish, law, -1), -1);
  }

  /** All numbers wild at once: nothing is ever thrown, and each answer is the refusal. */
  private static void wild() {
    int[] ends = {Integer.MIN_VALUE, Integer.MIN_VALUE + 1, -1000, -3, 64, 1000, Integer.MAX_VALUE - 1, Integer.MAX_VALUE};
    for (int a : ends) {
      ReflectCensus c = fixture();
      for (int b : ends) {
        due.is("deed", c.deed(a, b, a), -2);
        due.is("deed", c.deed(0, a, b), -2);
        due.is("looks", c.looks(0, a, b), -2);
        due.is("degree", c.degree(0, a, b), -2);
        due.is("state", c.state(0, 0, 0, a, b), -2);
        due.is("drawn", c.drawn(0, 0, a, b, a), -2);
        due.is("prize", c.prize(0, 0, a, b), -1);
        due.is("way", c.way(0, a, b), -1);
        due.is("round", c.round(0, a, b), -2);
        due.is("fits", c.fits(a, 0, b, a), -2);
        due.is("together", c.together(0, 0, a, b, true), -1);
        due.is("text", c.text(a, b), -2);
      }
    }
  }
}
