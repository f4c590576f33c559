/** Promises 1 to 9 and 33 to 35: the tape, texts and their FAULTS, what was told, images. */
public final class TextTest {
  private static final Due due = new Due("TextTest");

  public static void main(String[] args) {
    newObject();
    tape();
    texts();
    refusedTexts();
    parishFaults();
    otherFaults();
    asManyAsMayBe();
    parish();
    law();
    deeds();
    images();
    due.end();
  }

  private static void newObject() {
    ReflectCensus c = new ReflectCensus();
    for (int sort = 0; sort < 4; sort++) due.is("count(" + sort + ")", c.count(sort), 0);
    due.is("count(4)", c.count(4), -2);
    due.is("count(-1)", c.count(-1), -2);
    for (int k = -1; k < 4; k++) due.is("again(" + k + ")", c.again(k), false);
    due.is("fault(0)", c.fault(0), 0);
    due.is("fault(1)", c.fault(1), -1);
    due.is("fault(2)", c.fault(2), -1);
    due.is("fault(-1)", c.fault(-1), -1);
    due.is("end(1)", c.end(1), -1);
    due.is("end(0)", c.end(0), 0);
    due.is("NONE", ReflectCensus.NONE, -1);
  }

  private static void tape() {
    ReflectCensus c = new ReflectCensus();
    due.is("feed", c.feed('t' << 24 | 'a' << 16 | 'x' << 8 | ' ', '9' << 24 | ';' << 16 | 'x' << 8 | 'x', -1, -1, -1), 20);
    due.is("end(21)", c.end(21), -1);
    due.is("end(-1)", c.end(-1), -1);
    due.is("end(min)", c.end(Integer.MIN_VALUE), -1);
    due.is("end(max)", c.end(Integer.MAX_VALUE), -1);
    due.is("end(6)", c.end(6), 6);
    due.is("end(7)", c.end(7), -1);
    due.is("text(1, -1)", c.text(1, -1), 0);
    due.is("law(0, 5)", c.law(0, 5), 9);
    due.is("the tape is empty", c.end(1), -1);
    for (int k = 1; k <= 30; k++) due.is("feed " + k, c.feed(0x20202020, 0x20202020, 0x0a0a0a0a, 0x20202020, 0x20202020), 20 * k);
    due.is("feed beyond 600", c.feed(0, 0, 0, 0, 0), -1);
    due.is("end(600)", c.end(600), 600);
    due.is("end(581)", c.end(581), 581);
    due.is("feed to 601", c.feed(0, 0, 0, 0, 0), -1);
    due.is("end(580)", c.end(580), 580);
    due.is("feed to 600", c.feed(0x20202020, 0x20202020, 0x20202020, 0x20202020, 0x20202020), 600);
    due.is("600 blanks are a text", c.text(2, -1), 0);
    cutOff("twins;", 4, 0);
    cutOff("seats 123;", 8, 8);
    cutOff("twins;;", 5, 5);
    due.is("deeds of it", c.deed(0, -1, 0), 0);
  }

  /** What was cut off is no more there, though it would make the last token longer. */
  private static void cutOff(String text, int length, int place) {
    ReflectCensus c = new ReflectCensus();
    Due.feed(c, text);
    due.is("end(" + length + ")", c.end(length), length);
    due.is("a FAULT", c.text(1, -1), -1);
    due.is("FAULT 1", c.fault(0), 1);
    due.is("its place", c.fault(1), place);
  }

  private static void texts() {
    ReflectCensus c = new ReflectCensus();
    due.is("no such sort", c.text(4, -1), -2);
    due.is("no such sort", c.text(-1, -1), -2);
    for (int sort = 0; sort < 4; sort++) {
      due.is("none to replace", c.text(sort, 0), -2);
      due.is("first", c.text(sort, -1), 0);
      due.is("none to replace", c.text(sort, 1), -2);
      due.is("second", c.text(sort, -1), 1);
      due.is("no third", c.text(sort, -1), -2);
      due.is("in the second's place", c.text(sort, 1), 1);
      due.is("below NONE", c.text(sort, -2), -2);
      due.is("count", c.count(sort), 2);
    }
    Due.feed(c, "x");
    due.is("a FAULT", c.text(0, 0), -1);
    due.is("fault(0)", c.fault(0), 1);
    due.is("no text is read", c.text(0, -1), -2);
    due.is("FAULT 0 then", c.fault(0), 0);
    due.is("no place then", c.fault(1), -1);
    Due.feed(c, "size 3 4;person 1 1 5;");
    due.is("no third is read", c.text(0, -1), -2);
    due.is("the tape was taken all the same", c.text(0, 0), 0);
    due.is("an empty text was read", c.parish(0, 0), 6);
    Due.feed(c, "size 3 4;person 1 1 5;");
    due.is("in the first's place", c.text(0, 0), 0);
    due.is("parish(0, 0)", c.parish(0, 0), 3);
    due.is("parish(0, 2)", c.parish(0, 2), 1);
    due.is("parish(1, 0)", c.parish(1, 0), 6);
    Due.feed(c, "size 3 9;");
    due.is("a FAULT", c.text(0, 0), -1);
    due.is("all is as it was", c.parish(0, 1), 4);
    due.is("the tape was taken", c.end(1), -1);
    due.is("a new text begins anew", c.text(0, 0), 0);
    due.is("parish(0, 0)", c.parish(0, 0), 6);
    due.is("parish(0, 2)", c.parish(0, 2), 0);
    due.is("square(0, 4)", c.square(0, 4), 0);
  }

  /** Every text() takes the tape, whatever it answers; nothing else is changed where none is read. */
  private static void refusedTexts() {
    for (int sort = 0; sort < 4; sort++) {
      ReflectCensus c = new ReflectCensus();
      refused(c, sort, 0);
      refused(c, sort, 1);
      refused(c, sort, -2);
      refused(c, sort, Integer.MAX_VALUE);
      refused(c, sort, Integer.MIN_VALUE);
      due.is("none came", c.count(sort), 0);
      c.text(sort, -1);
      refused(c, sort, 1);
      c.text(sort, -1);
      refused(c, sort, -1);
      refused(c, sort, 2);
      due.is("two as before", c.count(sort), 2);
    }
    ReflectCensus c = new ReflectCensus();
    for (int sort : new int[] {-1, 4, 5, Integer.MAX_VALUE, Integer.MIN_VALUE}) {
      refused(c, sort, -1);
      refused(c, sort, 0);
    }
    imageBeforeARefusal();
  }

  private static void refused(ReflectCensus c, int sort, int at) {
    String name = "text(" + sort + ", " + at + ")";
    Due.feed(c, "x");
    due.is(name, c.text(sort, at), -2);
    due.is(name + " fault", c.fault(0), 0);
    due.is(name + " place", c.fault(1), -1);
    due.is(name + " leaves no byte", c.end(1), -1);
    due.is(name + " and a feed is the first", c.feed(0, 0, 0, 0, 0), 20);
    c.end(0);
  }

  private static void imageBeforeARefusal() {
    ReflectCensus c = new ReflectCensus();
    Due.feed(c, "tax 7;");
    c.image(0);
    due.is("refused", c.text(1, 0), -2);
    due.is("an empty tape", c.end(1), -1);
    c.image(1);
    due.is("again(0)", c.again(0), true);
    due.is("the image has its tape", c.text(1, -1), 0);
    due.is("tax", c.law(0, 5), 7);
    due.is("again(1)", c.again(1), true);
    due.is("the other has none", c.text(1, -1), 0);
    due.is("tax", c.law(0, 5), 1);
  }

  private static void faulty(int sort, String text, int fault, int place) {
    ReflectCensus c = new ReflectCensus();
    String name = "sort " + sort + " '" + text + "'";
    due.is(name, Due.tell(c, sort, text), fault == 0 ? 0 : -1);
    due.is(name + " fault", c.fault(0), fault);
    due.is(name + " place", c.fault(1), place);
    due.is(name + " count", c.count(sort), fault == 0 ? 1 : 0);
    due.is(name + " tape", c.end(1), -1);
  }

  private static void good(int sort, String text) { faulty(sort, text, 0, -1); }

  private static void parishFaults() {
    good(0, "");
    good(0, " \n ");
    good(0, "size 2 8;");
    good(0, "size 8 2;");
    good(0, "size 02 2;");
    good(0, "size2 2;");
    good(0, "\nsize\n2 2 ; ");
    good(0, "size 8 8;wall 7 7;");
    good(0, "wall 7 7;size 8 8;");
    good(0, "wall 0 0;wall 0 0;");
    good(0, "person 0 0 9;");
    good(0, "eye 0 0 7 9 3;");
    faulty(0, "size 1 2;", 2, 5);
    faulty(0, "size 2 9;", 2, 7);
    faulty(0, "size 9 1;", 2, 5);
    faulty(0, "wall 8 0;", 2, 5);
    faulty(0, "wall 0 8;", 2, 7);
    faulty(0, "person 8 0 0;", 2, 7);
    faulty(0, "person 0 0 10;", 2, 11);
    faulty(0, "pond 0 0 8 1 0;", 2, 9);
    faulty(0, "pond 0 0 0 0 0;", 2, 11);
    faulty(0, "spoon 0 0 0 0 0;", 2, 12);
    faulty(0, "mirror 0 0 0 0 0;", 2, 13);
    faulty(0, "eye 0 0 0 0 0;", 2, 10);
    faulty(0, "mirror 0 0 0 10 0;", 2, 13);
    faulty(0, "eye 0 0 0 1 4;", 2, 12);
    faulty(0, "wall 7 0;", 4, 9);
    faulty(0, "person 0 6 1; ", 4, 14);
    faulty(0, "size 8 8;pond 7 7 0 1 0;size 7 8;", 4, 33);
    faulty(0, "size 8 8;pond 7 7 0 1 0;size 8 7;", 4, 33);
    faulty(0, "wall 0 0;person 0 0 1;", 5, 22);
    faulty(0, "person 0 0 1;wall 0 0;", 5, 22);
    faulty(0, "person 0 0 1;person 0 0 1;", 5, 26);
    faulty(0, "person 0 0 1;pond 0 0 1 1 1;", 5, 28);
    faulty(0, "eye 0 0 1 1 1;pond 0 0 1 1 1;", 5, 29);
    faulty(0, "person 0 0 1;person 0 0 1;wall 6 0;", 4, 35);
    faulty(0, "Size 2 2;", 1, 0);
    faulty(0, "xize 2 2;", 1, 0);
    faulty(0, "sizE 2 2;", 1, 0);
    faulty(0, "sizes 2 2;", 1, 0);
    faulty(0, "siz", 1, 0);
    faulty(0, "size", 1, 4);
    faulty(0, "size 2 2", 1, 8);
    faulty(0, "size 2 2 ", 1, 9);
    faulty(0, "size 2 2 2;", 1, 9);
    faulty(0, "size 002 2;", 1, 5);
    faulty(0, "size 2;", 1, 6);
    faulty(0, "size\t2 2;", 1, 4);
    faulty(0, "size 2 2;\r", 1, 9);
    faulty(0, "size 2 2;\0", 1, 9);
    faulty(0, "size 2 2;\u00ff", 1, 9);
    faulty(0, "size 2 -2;", 1, 7);
    faulty(0, ";", 1, 0);
    faulty(0, "5", 1, 0);
    faulty(0, "size 2 2;;", 1, 9);
    faulty(0, "size 1 2;x", 1, 9);
    faulty(0, "size 99 100;", 1, 8);
    faulty(0, "wall 9 9;wall 9 9", 1, 17);
    faulty(0, "cousins 1;", 1, 0);
  }

  private static void otherFaults() {
    good(1, "cousins 9;seats 20;way 2;tax 9;twins;soup eye;");
    good(1, "seats 1;twins ; soup\npond;");
    faulty(1, "cousins 10;", 2, 8);
    faulty(1, "seats 0;", 2, 6);
    faulty(1, "seats 21;", 2, 6);
    faulty(1, "way 3;", 2, 4);
    faulty(1, "tax 10;", 2, 4);
    faulty(1, "way 3;tax 10;", 2, 4);
    faulty(1, "twins 1;", 1, 6);
    faulty(1, "soup;", 1, 4);
    faulty(1, "soup cup;", 1, 5);
    faulty(1, "soup size;", 1, 5);
    faulty(1, "soup person;", 1, 5);
    faulty(1, "soup 1;", 1, 5);
    faulty(1, "soup pond", 1, 9);
    faulty(1, "soup pond spoon;", 1, 10);
    faulty(1, "pond;", 1, 0);
    good(2, "go 7 7;turn 7 7;stir 7;calm 7;count;");
    faulty(2, "go 8 0;", 2, 3);
    faulty(2, "go 0 8;", 2, 5);
    faulty(2, "turn 8 0;", 2, 5);
    faulty(2, "turn 0 8;", 2, 7);
    faulty(2, "stir 8;", 2, 5);
    faulty(2, "calm 8;", 2, 5);
    faulty(2, "count 1;", 1, 6);
    faulty(2, "told 1 1;", 1, 0);
    good(3, "told 7 9;slips 9;told 7 0;");
    faulty(3, "told 8 0;", 2, 5);
    faulty(3, "told 0 10;", 2, 7);
    faulty(3, "slips 10;", 2, 6);
    faulty(3, "slips;", 1, 5);
    faulty(3, "count;", 1, 0);
  }

  private static void asManyAsMayBe() {
    String people = "";
    String shines = "";
    String[] kinds = {"pond", "spoon", "mirror", "eye"};
    for (int k = 0; k < 8; k++) {
      people += "person " + k + " 0 0;";
      shines += kinds[k % 4] + " " + k + " 1 0 1 0;";
    }
    good(0, "size 8 8;" + people + shines);
    int at = 9 + people.length();
    faulty(0, "size 8 8;" + people + "person 0 2 0;", 3, at);
    faulty(0, "size 8 8;" + people + "person 9 2 0;", 3, at);
    faulty(0, "size 8 9;" + people + "person 0 2 0;", 2, 7);
    faulty(0, "size 8 8;" + people + "wall 8 0;person 0 2 0;", 2, at + 5);
    faulty(0, "size 8 8;" + people + "person 0 2 0;wall 8 0;", 3, at);
    faulty(0, "size 8 8;" + people + "person 0 2 0;wall 0 0", 1, at + 21);
    faulty(0, "size 2 2;" + people + "person 0 2 0;", 3, at);
    at = 9 + shines.length();
    faulty(0, "size 8 8;" + shines + "eye 0 2 0 1 0;", 3, at);
    faulty(0, "size 8 8;" + shines + "pond 0 1 0 0 0;", 3, at);
    good(2, "count;".repeat(40));
    faulty(2, "count;".repeat(40) + "go 8 0;", 3, 240);
    faulty(2, "count;".repeat(39) + "go 8 0;count;", 2, 237);
  }

  private static void parish() {
    ReflectCensus c = Due.census("size 4 3;size 5 3;wall 2 0;person 4 0 7;pond 1 1 3 4 2;person 0 2 9;eye 3 2 6 9 1;", "");
    due.is("wide", c.parish(0, 0), 5);
    due.is("high", c.parish(0, 1), 3);
    due.is("people", c.parish(0, 2), 2);
    due.is("shines", c.parish(0, 3), 2);
    int[][] want = {{10, 4}, {11, 10}, {20, 7}, {21, 9}, {30, 0}, {31, 3}, {40, 6}, {41, 13}, {50, 3}, {51, 6}, {60, 4}, {61, 9}, {70, 2}, {71, 1}};
    for (int[] w : want) due.is("parish(0, " + w[0] + ")", c.parish(0, w[0]), w[1]);
    int[] others = {4, 5, 9, 12, 19, 22, 29, 32, 42, 52, 62, 72, 79, 80, 81, 90, 100, -1, -10, Integer.MAX_VALUE, Integer.MIN_VALUE};
    for (int w : others) due.is("parish(0, " + w + ")", c.parish(0, w), -1);
    due.is("no such", c.parish(1, 0), -1);
    due.is("no such", c.parish(-1, 0), -1);
    int[] cells = {0, 0, 1, 0, 10, 0, 20, 0, 0, 0, 11, 0, 0, 21, 0};
    for (int q = 0; q < 15; q++) due.is("square(0, " + q + ")", c.square(0, q), cells[q]);
    due.is("square(0, 15)", c.square(0, 15), -1);
    due.is("square(0, -1)", c.square(0, -1), -1);
    due.is("square(1, 0)", c.square(1, 0), -1);
    due.is("square(-1, 0)", c.square(-1, 0), -1);
  }

  private static void law() {
    ReflectCensus c = Due.census("", "");
    int[] first = {0, 1, 0, 5, 0, 1, -1};
    for (int w = -1; w < 7; w++) due.is("law(0, " + w + ")", c.law(0, w), w < 0 ? -1 : first[w]);
    due.is("text", Due.tell(c, 1, "cousins 3;cousins 2;seats 9;seats 12;way 1;way 2;tax 4;tax 0;twins;soup pond;soup eye;soup eye;"), 1);
    int[] want = {2, 0, 9, 12, 2, 0, -1};
    for (int w = 0; w < 7; w++) due.is("law(1, " + w + ")", c.law(1, w), want[w]);
    Due.tell(c, 1, "");
    due.is("no such", c.law(2, 0), -1);
    due.is("no such", c.law(-1, 0), -1);
    due.is("all is left over of none", c.text(1, 1), 1);
    for (int w = 0; w < 7; w++) due.is("law(1, " + w + ")", c.law(1, w), first[w]);
    due.is("soup mirror", Due.tell(new ReflectCensus(), 1, "soup mirror;"), 0);
    ReflectCensus d = Due.census("", "soup mirror;soup spoon;");
    due.is("soups", d.law(0, 2), 6);
  }

  private static void deeds() {
    ReflectCensus c = Due.census("", "", "go 1 7;turn 2 6;stir 3;calm 4;count;", "told 2 5;told 2 6;slips 3;slips 4;told 7 0;");
    int[][] want = {{0, 1, 7}, {1, 2, 6}, {2, 3, -1}, {3, 4, -1}, {4, -1, -1}};
    for (int k = 0; k < 5; k++) for (int w = 0; w < 3; w++) due.is("deed(0, " + k + ", " + w + ")", c.deed(0, k, w), want[k][w]);
    due.is("how many", c.deed(0, -1, 0), 5);
    due.is("how many, what 1", c.deed(0, -1, 1), -2);
    due.is("no such deed", c.deed(0, 5, 0), -2);
    due.is("no such deed", c.deed(0, -2, 0), -2);
    due.is("another what", c.deed(0, 0, 3), -2);
    due.is("another what", c.deed(0, 0, -1), -2);
    due.is("no such evening", c.deed(1, 0, 0), -2);
    due.is("no such evening", c.deed(1, -1, 0), -2);
    due.is("no such evening", c.deed(-1, -1, 0), -2);
    due.is("slips", c.sight(0, 0), 4);
    int[] told = {-1, -1, 6, -1, -1, -1, -1, 0};
    for (int s = 0; s < 8; s++) due.is("sight(0, " + (10 + s) + ")", c.sight(0, 10 + s), told[s]);
    for (int w : new int[] {-1, 1, 9, 18, 100}) due.is("sight(0, " + w + ")", c.sight(0, w), -2);
    due.is("no such sight", c.sight(1, 0), -2);
    due.is("no such sight", c.sight(-1, 10), -2);
    c.text(3, 0);
    due.is("slips anew", c.sight(0, 0), 0);
    due.is("told anew", c.sight(0, 12), -1);
  }

  private static void images() {
    ReflectCensus c = Due.census("size 3 3;person 0 0 1;", "seats 7;", "count;", "slips 2;");
    Due.tell(c, 0, "size 1 1;");
    Due.feed(c, "twins;");
    for (int k : new int[] {-1, 3, Integer.MAX_VALUE, Integer.MIN_VALUE}) {
      due.is("image(" + k + ")", c.image(k), false);
      due.is("again(" + k + ")", c.again(k), false);
    }
    due.is("image(0)", c.image(0), true);
    c.text(1, 0);
    c.text(0, 0);
    c.text(2, 0);
    c.text(3, -1);
    due.is("again(1)", c.again(1), false);
    due.is("image(1)", c.image(1), true);
    for (int round = 0; round < 2; round++) {
      due.is("again(0)", c.again(0), true);
      due.is("the FAULT", c.fault(0), 2);
      due.is("its place", c.fault(1), 5);
      due.is("parish", c.parish(0, 0), 3);
      due.is("person", c.parish(0, 10), 0);
      due.is("law", c.law(0, 3), 7);
      due.is("twins", c.law(0, 1), 1);
      due.is("deeds", c.deed(0, -1, 0), 1);
      due.is("sights", c.count(3), 1);
      due.is("slips", c.sight(0, 0), 2);
      due.is("the tape", c.end(7), -1);
      due.is("the tape as it was", c.text(1, 0), 0);
      due.is("twins", c.law(0, 1), 0);
      due.is("again(1)", c.again(1), true);
      due.is("no FAULT", c.fault(0), 0);
      due.is("sights", c.count(3), 2);
      due.is("parish", c.parish(0, 0), 6);
      due.is("deeds", c.deed(0, -1, 0), 0);
      due.is("law", c.law(0, 3), 5);
      due.is("twins", c.law(0, 1), 0);
      due.is("no tape", c.end(1), -1);
    }
    due.is("image(0) anew", c.image(0), true);
    c.again(1);
    c.again(0);
    due.is("parish of the new one", c.parish(0, 0), 6);
    due.is("again(2)", c.again(2), false);
  }
}
