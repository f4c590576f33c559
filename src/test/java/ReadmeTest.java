import java.nio.file.Files;
import java.nio.file.Path;
import java.util.List;

/** README's example: its calls and what it says they answer. */
public final class ReadmeTest {
  private static final Due due = new Due("ReadmeTest");

  public static void main(String[] args) throws Exception {
    ReflectCensus c = new ReflectCensus();
    due.is("the first twenty", c.feed(0x73697a65, 0x20332032, 0x3b706f6e, 0x64203020, 0x30203020), 20);
    due.is("twenty more", c.feed(0x39203020, 0x3b706572, 0x736f6e20, 0x32203020, 0x373b0000), 40);
    due.is("its length", c.end(38), 38);
    int parish = c.text(0, ReflectCensus.NONE);
    due.is("no FAULT", c.fault(0), 0);
    due.is("an empty tape", c.end(0), 0);
    int law = c.text(1, ReflectCensus.NONE);
    standsInReadme("int parish = c.text(0, ReflectCensus.NONE);", parish);
    standsInReadme("int law = c.text(1, ReflectCensus.NONE);", law);
    standsInReadme("int wide = c.parish(parish, 0);", c.parish(parish, 0));
    standsInReadme("int met = c.looks(parish, 0, 2);", c.looks(parish, 0, 2));
    standsInReadme("int sum = c.counted(parish, law, ReflectCensus.NONE);", c.counted(parish, law, ReflectCensus.NONE));
    fedInReadme("size 3 2;pond 0 0 0 ", "c.feed(0x73697a65, 0x20332032, 0x3b706f6e, 0x64203020, 0x30203020);");
    fedInReadme("9 0 ;person 2 0 7;\0\0", "c.feed(0x39203020, 0x3b706572, 0x736f6e20, 0x32203020, 0x373b0000);");
    due.end();
  }

  private static List<String> readme() throws Exception { return Files.readAllLines(Path.of("README.md")); }

  private static void standsInReadme(String call, int answer) throws Exception {
    due.is("README has: " + call + " // " + answer, readme().contains(call + " // " + answer), true);
  }

  /** The numbers are the bytes of the words that stand behind them. */
  private static void fedInReadme(String words, String call) throws Exception {
    StringBuilder t = new StringBuilder("c.feed(");
    for (int k = 0; k < 20; k++) {
      if (k % 4 == 0) t.append(k == 0 ? "0x" : ", 0x");
      t.append(String.format("%02x", (int) words.charAt(k)));
    }
    due.is(words, t.append(");").toString().equals(call), true);
    due.is("README has: " + call, readme().stream().anyMatch(line -> line.startsWith(call)), true);
  }
}
