/** The edges of the tape, of the texts with their FAULTS, and of what was told: promises 1 to 9, terms 1. */
public final class EdgeTextTest {
  private static final Due due = new Due("EdgeTextTest");
  private static final String[] KINDS = {"pond", "spoon", "mirror", "eye"};

  /** A sort, a word, and of each number the least and the greatest that can be. */
  private record Line(int sort, String word, int... ends) {
    int numbers() { return ends.length / 2; }
    boolean canBe(int k, int v) { return v >= ends[2 * k] && v <= ends[2 * k + 1]; }
    int greatest(int k) { return ends[2 * k + 1]; }
    /** A line that is good by itself, in 6 by 6 too. */
    String plain() {
      StringBuilder t = new StringBuilder(word);
      for (int k = 0; k < numbers(); k++) t.append(' ').append(ends[2 * k]);
      return t.append(word.equals("soup") ? " eye;" : ";").toString();
    }
  }

  private static final Line[] LINES = {
      new Line(0, "size", 2, 8, 2, 8), new Line(0, "wall", 0, 7, 0, 7), new Line(0, "person", 0, 7, 0, 7, 0, 9),
      new Line(0, "pond", 0, 7, 0, 7, 0, 7, 1, 9, 0, 3), new Line(0, "spoon", 0, 7, 0, 7, 0, 7, 1, 9, 0, 3),
      new Line(0, "mirror", 0, 7, 0, 7, 0, 7, 1, 9, 0, 3), new Line(0, "eye", 0, 7, 0, 7, 0, 7, 1, 9, 0, 3),
      new Line(1, "cousins", 0, 9), new Line(1, "seats", 1, 20), new Line(1, "way", 0, 2), new Line(1, "tax", 0, 9),
      new Line(1, "twins"), new Line(1, "soup"),
      new Line(2, "go", 0, 7, 0, 7), new Line(2, "turn", 0, 7, 0, 7), new Line(2, "stir", 0, 7), new Line(2, "calm", 0, 7), new Line(2, "count"),
      new Line(3, "told", 0, 7, 0, 9), new Line(3, "slips", 0, 9)};

  public static void main(String[] args) {
    atFirst();
    twentyBytes();
    sixHundredBytes();
    ends();
    everyNumber();
    longerRowsOfDigits();
    everyByte();
    everyWord();
    everyLineCutShort();
    everySize();
    manyOfEach();
    laterOnesStrike();
    furtherOnes();
    whichFault();
    numbersOfTexts();
    faultsOfTheLatest();
    due.end();
  }

  private static void text(int sort, String text, int fault, int place) {
    ReflectCensus c = new ReflectCensus();
    told(c, sort, text, fault, place);
    due.is("'" + text + "' count", c.count(sort), fault == 0 ? 1 : 0);
  }

  private static void told(ReflectCensus c, int sort, String text, int fault, int place) {
    String name = "'" + text + "' of sort " + sort;
    int before = c.count(sort);
    due.is(name, Due.tell(c, sort, text), fault == 0 ? before : -1);
    due.is(name + " FAULT", c.fault(0), fault);
    due.is(name + " place", c.fault(1), place);
    due.is(name + " leaves no tape", c.end(1), -1);
  }

  private static void good(int sort, String text) { text(sort, text, 0, -1); }

  /** "No PARISHES, LAWS, EVENINGS, SIGHTS; no images"; and what each is "at first". */
  private static void atFirst() {
    ReflectCensus c = new ReflectCensus();
    for (int sort = 0; sort < 4; sort++) due.is("none of sort " + sort, c.count(sort), 0);
    for (int k = 0; k < 3; k++) due.is("no image " + k, c.again(k), false);
    due.is("no bytes", c.end(1), -1);
    due.is("no FAULT", c.fault(0), 0);
    due.is("no place", c.fault(1), -1);
    for (int sort = 0; sort < 4; sort++) due.is("nothing at all is a text", c.text(sort, -1), 0);
    int[] parish = {6, 6, 0, 0};
    for (int w = 0; w < 4; w++) due.is("parish(0, " + w + ")", c.parish(0, w), parish[w]);
    due.is("the last SQUARE of 36", c.square(0, 35), 0);
    due.is("no 37th", c.square(0, 36), -1);
    int[] law = {0, 1, 0, 5, 0, 1};
    for (int w = 0; w < 6; w++) due.is("law(0, " + w + ")", c.law(0, w), law[w]);
    due.is("no DEEDS", c.deed(0, -1, 0), 0);
    due.is("no DEED 0", c.deed(0, 0, 0), -2);
    due.is("SLIPS", c.sight(0, 0), 0);
    for (int s = 0; s < 8; s++) due.is("nothing told of " + s, c.sight(0, 10 + s), -1);
  }

  /** "twenty bytes come behind it, of each number the highest first". */
  private static void twentyBytes() {
    String all = "tax 1;way 2;seats 7;";
    for (int at = 0; at < 20; at++) {
      byte[] b = all.getBytes(java.nio.charset.StandardCharsets.ISO_8859_1);
      b[at] = (byte) 0x80;
      ReflectCensus c = new ReflectCensus();
      due.is("feed", c.feed(Due.word(b, 0), Due.word(b, 4), Due.word(b, 8), Due.word(b, 12), Due.word(b, 16)), 20);
      due.is("a FAULT", c.text(1, -1), -1);
      due.is("FAULT 1", c.fault(0), 1);
      // the byte is no token; a word or number before it that can't be followed by it ends there
      int first = at == 1 || at == 2 ? 0 : at == 7 || at == 8 ? 6 : at >= 13 && at <= 16 ? 12 : at;
      due.is("byte " + at + " spoiled", c.fault(1), first);
    }
    ReflectCensus c = new ReflectCensus();
    Due.feed(c, all);
    due.is("20 bytes", c.end(20), 20);
    due.is("not 21", c.end(21), -1);
    due.is("a LAW", c.text(1, -1), 0);
    int[] law = {0, 1, 0, 7, 2, 1};
    for (int w = 0; w < 6; w++) due.is("law(0, " + w + ")", c.law(0, w), law[w]);
    // behind what was cut, not behind what was fed
    Due.feed(c, "tax 1;way 2;");
    c.end(6);
    due.is("behind 6 bytes", c.feed(0x73656174, 0x73203230, 0x3b202020, 0x20202020, 0x20202020), 26);
    due.is("a LAW", c.text(1, 0), 0);
    int[] other = {0, 1, 0, 20, 0, 1};
    for (int w = 0; w < 6; w++) due.is("law(0, " + w + ") then", c.law(0, w), other[w]);
  }

  private static ReflectCensus fed(String text) {
    ReflectCensus c = new ReflectCensus();
    Due.feed(c, text);
    return c;
  }

  /** "THE TAPE has at most 600 bytes": "NONE, and nothing comes, if there would be more than 600". */
  private static void sixHundredBytes() {
    String full = " ".repeat(594) + "tax 9;";
    for (int have = 575; have <= 600; have++) {
      ReflectCensus c = fed(full);
      c.end(have);
      due.is("feed behind " + have, c.feed(0x20202020, 0x20202020, 0x20202020, 0x20202020, 0x20202020), have <= 580 ? have + 20 : -1);
      due.is("that many", c.end(have <= 580 ? have + 20 : have), have <= 580 ? have + 20 : have);
      due.is("and no more", c.end(have <= 580 ? have + 21 : have + 1), -1);
    }
    ReflectCensus c = fed(full);
    for (int k = 0; k < 3; k++) due.is("a 31st", c.feed(-1, -1, -1, -1, -1), -1);
    due.is("nothing came", c.text(1, -1), 0);
    due.is("the last bytes", c.law(0, 5), 9);
    due.is("an empty tape again", c.feed(0, 0, 0, 0, 0), 20);
    text(1, full, 0, -1);
    text(1, " ".repeat(595) + "tax 9", 1, 600);
    text(1, " ".repeat(596) + "tax ", 1, 600);
    text(1, " ".repeat(599) + "x", 1, 599);
    text(1, "tax 9;" + " ".repeat(593) + ";", 1, 599);
    text(1, " ".repeat(593) + "tax 10;", 2, 597);
    text(1, "x" + " ".repeat(599), 1, 0);
    text(1, "a".repeat(600), 1, 0);
    text(1, "1".repeat(600), 1, 0);
    text(1, ";".repeat(600), 1, 0);
    text(0, " ".repeat(591) + "wall 6 0;", 4, 600);
    text(0, "wall 6 0;" + "\n".repeat(591), 4, 600);
    text(0, "person 0 0 0;wall 0 0;" + " ".repeat(578), 5, 600);
    text(2, " ".repeat(360) + "count;".repeat(40), 0, -1);
    text(2, " ".repeat(354) + "count;".repeat(41), 3, 594);
  }

  /** "The tape has its first n bytes alone: n. NONE if it has not so many, or n is below 0." */
  private static void ends() {
    for (int n = 0; n <= 20; n++) {
      ReflectCensus c = fed("seats 3;seats 4;tax ");
      due.is("end(" + n + ")", c.end(n), n);
      due.is("end(" + (n + 1) + ") behind it", c.end(n + 1), -1);
      due.is("it has them still", c.end(n), n);
      boolean whole = n == 0 || n == 8 || n == 16;
      due.is("a text of " + n, c.text(1, -1), whole ? 0 : -1);
      due.is("SEATS of " + n, c.law(0, 3), !whole ? -1 : n == 0 ? 5 : n == 8 ? 3 : 4);
      due.is("an empty tape has no byte", c.end(1), -1);
      due.is("but none it has", c.end(0), 0);
    }
    for (int n : new int[] {21, 600, 601, -1, -2, -20, Integer.MIN_VALUE, Integer.MAX_VALUE}) {
      ReflectCensus c = fed("seats 3;seats 4;tax9;");
      c.end(20);
      due.is("end(" + n + ")", c.end(n), -1);
      due.is("all is there", c.end(20), 20);
      due.is("and no more", c.end(21), -1);
    }
  }

  private static String line(Line l, int k, String number) {
    StringBuilder t = new StringBuilder(l.word);
    for (int i = 0; i < l.numbers(); i++) t.append(' ').append(i == k ? number : "" + l.greatest(i));
    if (l.word.equals("soup")) t.append(" eye");
    return t.append(';').toString();
  }

  /** The numbers of a line as they are told again. */
  private static int again(ReflectCensus c, Line l, int k, int[] n) {
    switch (l.word) {
      case "size": return c.parish(0, k);
      case "wall": return c.square(0, 8 * n[1] + n[0]) == 1 ? n[k] : -9;
      case "person": return k == 0 ? c.parish(0, 10) % 8 : k == 1 ? c.parish(0, 10) / 8 : c.parish(0, 20);
      case "cousins": return c.law(0, 0);
      case "seats": return c.law(0, 3);
      case "way": return c.law(0, 4);
      case "tax": return c.law(0, 5);
      case "go": case "turn": case "stir": case "calm": return c.deed(0, 0, 1 + k);
      case "told": return k == 1 ? c.sight(0, 10 + n[0]) : c.sight(0, 10 + n[0]) == n[1] ? n[0] : -9;
      case "slips": return c.sight(0, 0);
      default: return k == 0 ? c.parish(0, 40) % 8 : k == 1 ? c.parish(0, 40) / 8 : c.parish(0, 30 + 10 * k);
    }
  }

  /** "2 a NUMBER that can't be", each of each line, 0 to 99, with one digit and with two. */
  private static void everyNumber() {
    for (Line l : LINES) {
      // by all of 8 by 8 a column or row that can be is there too
      String before = l.sort == 0 && !l.word.equals("size") ? "size 8 8;" : "";
      for (int k = 0; k < l.numbers(); k++) {
        for (int v = 0; v < 110; v++) {
          String number = v < 100 ? "" + v : "0" + (v - 100);
          int value = v % 100;
          int place = before.length() + l.word.length() + 1 + 2 * k;
          for (int i = 0; i < k; i++) if (l.greatest(i) > 9) place++;
          boolean can = l.canBe(k, value);
          String text = before + line(l, k, number);
          text(l.sort, text, can ? 0 : 2, can ? -1 : place);
          if (!can) continue;
          ReflectCensus c = new ReflectCensus();
          Due.tell(c, l.sort, text);
          int[] n = new int[l.numbers()];
          for (int i = 0; i < n.length; i++) n[i] = i == k ? value : l.greatest(i);
          for (int i = 0; i < n.length; i++) due.is(text + " number " + i, again(c, l, i, n), n[i]);
        }
      }
    }
  }

  /** "a longer row of digits is no token", though its value could be. */
  private static void longerRowsOfDigits() {
    for (Line l : LINES) {
      for (int k = 0; k < l.numbers(); k++) {
        int place = l.word.length() + 1 + 2 * k;
        for (String row : new String[] {"000", "002", "0002", "100", "2222222222222"}) text(l.sort, line(l, k, row), 1, place);
      }
    }
    text(0, "000", 1, 0);
    text(1, "twins;123", 1, 6);
  }

  private static boolean isLetter(int b) { return b >= 97 && b <= 122; }

  private static boolean isDigit(int b) { return b >= 48 && b <= 57; }

  /** All 256 bytes: blanks are 10 and 32, letters a .. z, digits, and ; is one byte; no other is of a token. */
  private static void everyByte() {
    for (int b = 0; b < 256; b++) {
      char s = (char) b;
      boolean blank = b == 10 || b == 32;
      text(1, s + "twins;", blank ? 0 : 1, blank ? -1 : 0);
      text(1, "tw" + s + "ins;", 1, 0);
      text(1, "twins" + s + ";", blank ? 0 : 1, blank ? -1 : isLetter(b) ? 0 : b == 59 ? 6 : 5);
      text(1, "twins;" + s, blank ? 0 : 1, blank ? -1 : 6);
      text(1, "twins;" + s + "twins;", blank ? 0 : 1, blank ? -1 : 6);
      text(1, "soup eye" + s + ";", blank ? 0 : 1, blank ? -1 : isLetter(b) ? 5 : b == 59 ? 9 : 8);
      if (isDigit(b)) {
        text(1, "seats 2" + s + ";", b == 48 ? 0 : 2, b == 48 ? -1 : 6);
        text(1, "seats" + s + "2;", b <= 49 ? 0 : 2, b <= 49 ? -1 : 5);
      } else {
        text(1, "seats 2" + s + ";", blank ? 0 : 1, blank ? -1 : b == 59 ? 8 : 7);
        text(1, "seats" + s + "2;", blank ? 0 : 1, blank ? -1 : isLetter(b) ? 0 : 5);
      }
    }
  }

  /** Words of another sort, and words one letter longer, shorter or other, are none of a text. */
  private static void everyWord() {
    for (int sort = 0; sort < 4; sort++) {
      for (Line l : LINES) {
        String line = l.plain();
        String rest = line.substring(l.word.length());
        boolean own = l.sort == sort;
        text(sort, line, own ? 0 : 1, own ? -1 : 0);
        if (!own) continue;
        String w = l.word;
        for (int k = 0; k < w.length(); k++) {
          text(sort, w.substring(0, k) + w.substring(k + 1) + rest, 1, 0);
          text(sort, w.substring(0, k) + 'q' + w.substring(k + 1) + rest, 1, 0);
          text(sort, w.substring(0, k) + Character.toUpperCase(w.charAt(k)) + w.substring(k + 1) + rest, 1, 0);
        }
        text(sort, w + "a" + rest, 1, 0);
        text(sort, "a" + w + rest, 1, 0);
        text(sort, w + w + rest, 1, 0);
      }
    }
    for (Line l : LINES) {
      boolean kind = java.util.Arrays.asList(KINDS).contains(l.word);
      text(1, "soup " + l.word + ";", kind ? 0 : 1, kind ? -1 : 5);
      if (kind) text(1, "soup " + l.word + "s;", 1, 5);
      if (kind) text(1, "soup " + l.word.substring(1) + ";", 1, 5);
    }
  }

  /** A line with a token too few, too many, or another one in its place, at the token with which no text goes on. */
  private static void everyLineCutShort() {
    for (Line l : LINES) {
      String line = l.plain();
      String[] tokens = line.substring(0, line.length() - 1).split(" ");
      StringBuilder t = new StringBuilder();
      for (int k = 0; k < tokens.length; k++) {
        if (k > 0) t.append(' ');
        text(l.sort, t + ";", 1, t.length());
        if (k > 0) text(l.sort, t + "q;", 1, t.length());
        if (k == 0) text(l.sort, t + "7;", 1, t.length());
        if (k > 0) text(l.sort, "" + t, 1, t.length());
        t.append(tokens[k]);
        text(l.sort, "" + t, 1, t.length());
        text(l.sort, t + " \n", 1, t.length() + 2);
        text(l.sort, line + t, 1, line.length() + t.length());
      }
      text(l.sort, t + " 1;", 1, t.length() + 1);
      text(l.sort, t + " q;", 1, t.length() + 1);
      text(l.sort, t + " eye;", 1, t.length() + 1);
      text(l.sort, line + ";", 1, line.length());
      text(l.sort, line + "1", 1, line.length());
      text(l.sort, line + "q", 1, line.length());
      good(l.sort, line.replace(" ", "\n").replace(";", "  ;\n"));
    }
  }

  /** "WIDE, 2 .. 8, and HIGH, 2 .. 8": SQUARES "numbered WIDE times row and column"; "4 a SQUARE that .. is not there". */
  private static void everySize() {
    for (int wide = 2; wide <= 8; wide++) {
      for (int high = 2; high <= 8; high++) {
        String size = "size " + wide + " " + high + ";";
        ReflectCensus c = new ReflectCensus();
        Due.tell(c, 0, size + "wall 0 0;person " + (wide - 1) + " 0 0;pond 0 " + (high - 1) + " 0 1 0;eye " + (wide - 1) + " " + (high - 1) + " 0 1 0;");
        due.is("wide", c.parish(0, 0), wide);
        due.is("high", c.parish(0, 1), high);
        due.is("right on top", c.parish(0, 10), wide - 1);
        due.is("left below", c.parish(0, 40), wide * (high - 1));
        due.is("right below", c.parish(0, 41), wide * high - 1);
        for (int q = -1; q <= 65; q++) {
          int want = q == 0 ? 1 : q == wide - 1 ? 10 : q == wide * (high - 1) ? 20 : q == wide * high - 1 ? 21 : q < 0 || q >= wide * high ? -1 : 0;
          due.is(size + " square " + q, c.square(0, q), want);
        }
        for (String thing : new String[] {"wall X Y;", "person X Y 0;", "pond X Y 0 1 0;", "spoon X Y 0 1 0;", "mirror X Y 0 1 0;", "eye X Y 0 1 0;"}) {
          outside(size, thing, wide - 1, high - 1, true);
          if (wide < 8) outside(size, thing, wide, high - 1, false);
          if (high < 8) outside(size, thing, wide - 1, high, false);
          if (wide < 8) outside(size, thing, 7, 0, false);
          if (high < 8) outside(size, thing, 0, 7, false);
        }
      }
    }
  }

  private static void outside(String size, String thing, int x, int y, boolean there) {
    String line = thing.replace("X", "" + x).replace("Y", "" + y);
    text(0, size + line, there ? 0 : 4, there ? -1 : size.length() + line.length());
    text(0, line + size, there ? 0 : 4, there ? -1 : size.length() + line.length());
  }

  private static String people(int many) {
    StringBuilder t = new StringBuilder();
    for (int k = 0; k < many; k++) t.append("person " + k + " 0 " + (k + 2) % 10 + ";");
    return t.toString();
  }

  private static String shines(int many) {
    StringBuilder t = new StringBuilder();
    for (int k = 0; k < many; k++) t.append(KINDS[k % 4] + " " + k + " 1 " + k + " " + (9 - k) + " " + (3 - k % 4) + ";");
    return t.toString();
  }

  /** "at most 8", "at most 8", "at most 40"; "3 a 9th PERSON, a 9th SHINE, a 41st DEED, at its first token". */
  private static void manyOfEach() {
    for (int many = 0; many <= 8; many++) {
      ReflectCensus c = new ReflectCensus();
      told(c, 0, "size 8 8;" + people(many) + shines(8 - many), 0, -1);
      due.is("people", c.parish(0, 2), many);
      due.is("shines", c.parish(0, 3), 8 - many);
      for (int p = 0; p < 8; p++) {
        due.is("SQUARE of " + p, c.parish(0, 10 + p), p < many ? p : -1);
        due.is("NAME of " + p, c.parish(0, 20 + p), p < many ? (p + 2) % 10 : -1);
        int[] row = {p % 4, 8 + p, p, 9 - p, 3 - p % 4};
        for (int w = 0; w < 5; w++) due.is("of shine " + p, c.parish(0, 30 + 10 * w + p), p < 8 - many ? row[w] : -1);
      }
    }
    good(0, "size 8 8;" + people(8) + shines(8));
    String size = "size 8 8;";
    int behind = size.length() + people(8).length();
    text(0, size + people(8) + "person 0 7 0;", 3, behind);
    text(0, size + people(8) + " \n person 0 7 0;", 3, behind + 3);
    text(0, size + people(8) + shines(8) + "person 0 7 0;", 3, behind + shines(8).length());
    text(0, size + people(8) + "person 0 7 0;person 1 7 0;", 3, behind);
    text(0, size + people(8) + "wall 0 7;person 0 7 0;", 3, behind + 9);
    for (String number : new String[] {"8 0 0", "0 8 0", "0 0 10"}) text(0, size + people(8) + "person " + number + ";", 3, behind);
    behind = size.length() + shines(8).length();
    for (String kind : KINDS) {
      text(0, size + shines(8) + kind + " 0 7 0 1 0;", 3, behind);
      for (String number : new String[] {"8 0 0 1 0", "0 8 0 1 0", "0 0 8 1 0", "0 0 0 0 0", "0 0 0 10 0", "0 0 0 1 4"}) {
        text(0, size + shines(8) + kind + " " + number + ";", 3, behind);
      }
    }
    String[] deeds = {"go 0 0;", "turn 0 0;", "stir 0;", "calm 0;", "count;"};
    for (String deed : deeds) {
      good(2, deed.repeat(40));
      for (String other : deeds) text(2, deed.repeat(40) + other, 3, 40 * deed.length());
      for (String other : new String[] {"go 8 0;", "go 0 8;", "turn 8 0;", "turn 0 8;", "stir 8;", "calm 8;"}) {
        text(2, deed.repeat(40) + other, 3, 40 * deed.length());
        // such a line tells its DEED all the same, but its NUMBER comes before the 41st
        text(2, other + deed.repeat(40), 2, other.indexOf('8'));
      }
    }
    ReflectCensus c = new ReflectCensus();
    Due.tell(c, 2, "turn 1 2;".repeat(39) + "go 7 6;");
    due.is("40 DEEDS", c.deed(0, -1, 0), 40);
    due.is("the last but one", c.deed(0, 38, 0), 1);
    due.is("the last", c.deed(0, 39, 0), 0);
    due.is("its first number", c.deed(0, 39, 1), 7);
    due.is("its other", c.deed(0, 39, 2), 6);
    due.is("no 41st", c.deed(0, 40, 0), -2);
    // walls have no bound but the tape's: all SQUARES of 8 by 7
    StringBuilder walls = new StringBuilder("size 8 7;");
    for (int q = 0; q < 56; q++) walls.append("wall " + q % 8 + " " + q / 8 + ";");
    ReflectCensus d = new ReflectCensus();
    told(d, 0, walls.toString(), 0, -1);
    for (int q = 0; q < 56; q++) due.is("a WALL on " + q, d.square(0, q), 1);
    text(0, "wall 1 1;".repeat(66), 0, -1);
  }

  /** "Later ones strike (size, told and the LAW's)". */
  private static void laterOnesStrike() {
    ReflectCensus c = new ReflectCensus();
    told(c, 0, "size 8 8;size 2 3;", 0, -1);
    due.is("WIDE", c.parish(0, 0), 2);
    due.is("HIGH", c.parish(0, 1), 3);
    told(c, 0, "size 2 2;wall 7 7;size 8 8;", 0, -1);
    due.is("numbered by the later", c.square(1, 63), 1);
    text(0, "size 8 8;wall 7 7;size 7 7;", 4, 27);
    // a NUMBER that can't be is a FAULT though it would be struck
    text(0, "size 9 2;size 2 2;", 2, 5);
    text(1, "tax 10;tax 1;", 2, 4);
    told(c, 1, "cousins 9;seats 20;way 2;tax 9;cousins 0;seats 1;way 0;tax 0;", 0, -1);
    int[] law = {0, 1, 0, 1, 0, 0};
    for (int w = 0; w < 6; w++) due.is("law(0, " + w + ")", c.law(0, w), law[w]);
    told(c, 1, "twins;twins;", 0, -1);
    due.is("twins, told twice", c.law(1, 1), 0);
    told(c, 3, "told 0 9;told 7 9;told 0 0;told 7 1;told 7 2;slips 9;slips 0;", 0, -1);
    due.is("told of 0", c.sight(0, 10), 0);
    due.is("told of 7", c.sight(0, 17), 2);
    due.is("SLIPS", c.sight(0, 0), 0);
  }

  /** "but WALLS, PEOPLE, SHINES, SOUP, DEEDS, which are further ones". */
  private static void furtherOnes() {
    ReflectCensus c = new ReflectCensus();
    told(c, 0, "wall 0 0;wall 1 0;wall 0 0;person 2 0 5;person 3 0 5;eye 4 0 0 1 0;eye 5 0 0 1 0;", 0, -1);
    int[] top = {1, 1, 10, 11, 20, 21};
    for (int q = 0; q < 6; q++) due.is("square " + q, c.square(0, q), top[q]);
    for (int soup = 0; soup < 16; soup++) {
      StringBuilder t = new StringBuilder();
      for (int k = 3; k >= 0; k--) if ((soup >> k & 1) == 1) t.append(("soup " + KINDS[k] + ";").repeat(1 + k % 2));
      ReflectCensus d = new ReflectCensus();
      told(d, 1, t.toString(), 0, -1);
      due.is("SOUP " + soup, d.law(0, 2), soup);
    }
    told(c, 2, "count;count;stir 1;count;", 0, -1);
    due.is("DEEDS", c.deed(0, -1, 0), 4);
  }

  /** FAULTS: 1 before all; then "the first by place"; then 4; then 5, both "at the end's place". */
  private static void whichFault() {
    text(0, "size 9 9;wall 9 9;person 0 0 0;person 0 0 0;wall 7 7;x", 1, 53);
    text(0, "size 8 9;wall 9 9;", 2, 7);
    text(0, "wall 9 8;", 2, 5);
    text(0, "wall 7 7;wall 0 8;", 2, 16);
    text(0, "person 0 0 0;person 0 0 10;", 2, 24);
    text(0, people(8) + "person 0 1 10;wall 8 8;", 3, 104);
    text(0, people(8) + "wall 8 8;person 0 1 0;", 2, 109);
    text(0, people(8) + "person 0 0 0;", 3, 104);
    text(0, people(8) + "person 0 1 0;person 0 1", 1, 127);
    text(0, people(7), 4, 91);
    text(0, "wall 7 7;person 0 0 0;person 0 0 0;", 4, 35);
    text(0, "person 0 0 0;person 0 0 0;wall 7 7;", 4, 35);
    // two things on one SQUARE that is not there: 4 is the least of one place
    text(0, "person 7 7 0;person 7 7 0;", 4, 26);
    String[] things = {"wall 5 5;", "person 5 5 0;", "pond 5 5 0 1 0;", "spoon 5 5 0 1 0;", "mirror 5 5 0 1 0;", "eye 5 5 0 1 0;"};
    for (String a : things) {
      for (String b : things) {
        boolean one = a.equals(b) && a.startsWith("wall");
        text(0, a + b, one ? 0 : 5, one ? -1 : a.length() + b.length());
        // the SQUARES of 8 by 8 are others than those of 6 by 6, but not these
        text(0, a + b + "size 8 8;", one ? 0 : 5, one ? -1 : a.length() + b.length() + 9);
      }
    }
    // (0, 1) of 6 WIDE and (6, 0) of 8 WIDE bear one number, yet are two SQUARES
    good(0, "size 8 8;wall 6 0;person 0 1 0;eye 4 1 0 1 0;");
  }

  /** text(): "a further one (at NONE), or in the place of one: its number". "-2: there is none such, there are as many as may be". */
  private static void numbersOfTexts() {
    String[] texts = {"size 3 3;", "seats 3;", "stir 3;", "slips 3;"};
    for (int sort = 0; sort < 4; sort++) {
      ReflectCensus c = new ReflectCensus();
      for (int have = 0; have <= 2; have++) {
        due.is("count", c.count(sort), have);
        for (int at : new int[] {-3, -2, 0, 1, 2, 3, Integer.MIN_VALUE, Integer.MAX_VALUE}) {
          if (at >= 0 && at < have) continue;
          Due.feed(c, texts[sort]);
          due.is("have " + have + ", at " + at, c.text(sort, at), -2);
          due.is("count behind it", c.count(sort), have);
        }
        for (int at = 0; at < have; at++) {
          Due.feed(c, texts[sort]);
          due.is("in the place of " + at, c.text(sort, at), at);
          due.is("count behind it", c.count(sort), have);
        }
        Due.feed(c, "?");
        due.is("a FAULT", c.text(sort, -1), have < 2 ? -1 : -2);
        due.is("count behind it", c.count(sort), have);
        Due.feed(c, texts[sort]);
        due.is("a further one", c.text(sort, -1), have < 2 ? have : -2);
      }
      for (int other = 0; other < 4; other++) due.is("others", c.count(other), other == sort ? 2 : 0);
    }
    replaced();
  }

  /** In the place of one: that one is told anew from the first, the other stays; by a FAULT both stay. */
  private static void replaced() {
    for (int at = 0; at < 2; at++) {
      ReflectCensus c = new ReflectCensus();
      for (int k = 0; k < 2; k++) {
        Due.tell(c, 0, "size 3 3;wall 0 0;person 1 0 4;eye 2 0 1 2 3;");
        Due.tell(c, 1, "cousins 3;seats 3;twins;soup eye;way 2;tax 3;");
        Due.tell(c, 2, "stir 3;count;");
        Due.tell(c, 3, "slips 3;told 3 3;");
      }
      String[] faulty = {"size 4 4;person 1 1 1;person 1 1 1;", "seats 0;", "count;count;count;go 9 9;", "slips 4;told 9 9;"};
      for (int sort = 0; sort < 4; sort++) {
        Due.feed(c, faulty[sort]);
        due.is("a FAULT", c.text(sort, at), -1);
      }
      for (int k = 0; k < 2; k++) isAsFirst(c, k);
      for (int sort = 0; sort < 4; sort++) due.is("anew", c.text(sort, at), at);
      isAsFirst(c, 1 - at);
      int[] parish = {6, 6, 0, 0};
      for (int w = 0; w < 4; w++) due.is("parish anew", c.parish(at, w), parish[w]);
      for (int q = 0; q < 36; q++) due.is("square anew", c.square(at, q), 0);
      int[] law = {0, 1, 0, 5, 0, 1};
      for (int w = 0; w < 6; w++) due.is("law anew", c.law(at, w), law[w]);
      due.is("evening anew", c.deed(at, -1, 0), 0);
      due.is("slips anew", c.sight(at, 0), 0);
      due.is("told anew", c.sight(at, 13), -1);
    }
  }

  private static void isAsFirst(ReflectCensus c, int k) {
    int[] parish = {3, 3, 1, 1};
    for (int w = 0; w < 4; w++) due.is("parish stays", c.parish(k, w), parish[w]);
    int[] top = {1, 10, 20, 0, 0, 0, 0, 0, 0, -1};
    for (int q = 0; q < 10; q++) due.is("square stays", c.square(k, q), top[q]);
    int[] law = {3, 0, 8, 3, 2, 3};
    for (int w = 0; w < 6; w++) due.is("law stays", c.law(k, w), law[w]);
    due.is("deeds stay", c.deed(k, -1, 0), 2);
    due.is("the first stays", c.deed(k, 0, 1), 3);
    due.is("slips stay", c.sight(k, 0), 3);
    due.is("told stays", c.sight(k, 13), 3);
  }

  /** fault(): "Of the latest text()"; calls between change nothing of it. */
  private static void faultsOfTheLatest() {
    ReflectCensus c = new ReflectCensus();
    Due.tell(c, 0, "size 2 9;");
    for (int k = 0; k < 2; k++) {
      due.is("FAULT 2", c.fault(0), 2);
      due.is("at 7", c.fault(1), 7);
      for (int w : new int[] {-1, 2, 3, 10, Integer.MIN_VALUE, Integer.MAX_VALUE}) due.is("another what", c.fault(w), -1);
      c.feed(0, 0, 0, 0, 0);
      c.end(3);
      c.end(-1);
      c.count(9);
      c.parish(0, 0);
      c.image(0);
    }
    due.is("refused", c.text(0, 0), -2);
    due.is("FAULT 0", c.fault(0), 0);
    due.is("no place", c.fault(1), -1);
    for (int sort : new int[] {-1, 4, Integer.MIN_VALUE, Integer.MAX_VALUE}) {
      Due.tell(c, 1, "seats 99;");
      due.is("a FAULT first", c.fault(0), 2);
      Due.feed(c, "seats 99;");
      due.is("no such sort", c.text(sort, -1), -2);
      due.is("FAULT 0", c.fault(0), 0);
      due.is("no place", c.fault(1), -1);
      due.is("the tape was taken", c.end(1), -1);
    }
    Due.tell(c, 1, "?");
    due.is("FAULT 1", c.fault(0), 1);
    due.is("at 0", c.fault(1), 0);
    due.is("a text without", c.text(1, -1), 0);
    due.is("FAULT 0", c.fault(0), 0);
    due.is("no place", c.fault(1), -1);
  }
}
