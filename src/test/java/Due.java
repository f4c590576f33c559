import java.nio.charset.StandardCharsets;

/** What the tests share: telling texts, and saying what is not as due. */
final class Due {
  private final String name;
  private int wrong = 0;
  private int asked = 0;

  Due(String name) { this.name = name; }

  void is(String call, long got, long want) {
    asked++;
    if (got != want) {
      wrong++;
      System.out.println(name + ": " + call + " answered " + got + ", due is " + want);
    }
  }

  void is(String call, boolean got, boolean want) { is(call, got ? 1 : 0, want ? 1 : 0); }

  void end() {
    System.out.println(name + ": " + asked + " asked, " + wrong + " not as due");
    if (wrong != 0) System.exit(1);
  }

  /** Feeds a text, all bytes of it and no more, onto an empty tape. */
  static void feed(ReflectCensus c, String text) { feed(c, text.getBytes(StandardCharsets.ISO_8859_1)); }

  static void feed(ReflectCensus c, byte[] b) {
    for (int at = 0; at < b.length; at += 20) {
      c.feed(word(b, at), word(b, at + 4), word(b, at + 8), word(b, at + 12), word(b, at + 16));
    }
    c.end(b.length);
  }

  static int word(byte[] b, int at) {
    int v = 0;
    for (int k = 0; k < 4; k++) v = v << 8 | (at + k < b.length ? b[at + k] & 255 : 0);
    return v;
  }

  static int tell(ReflectCensus c, int sort, String text) {
    feed(c, text);
    return c.text(sort, -1);
  }

  /** A new object with a parish, a law, and what else is told: an evening, a sight. */
  static ReflectCensus census(String parish, String law) { return census(parish, law, "", ""); }

  static ReflectCensus census(String parish, String law, String evening, String sight) {
    ReflectCensus c = new ReflectCensus();
    String[] texts = {parish, law, evening, sight};
    for (int sort = 0; sort < 4; sort++) {
      int got = tell(c, sort, texts[sort]);
      if (got != 0) throw new IllegalStateException("a test's own text is wrong: " + texts[sort] + ": FAULT " + c.fault(0) + " at " + c.fault(1));
    }
    return c;
  }
}
