import java.lang.reflect.Method;
import java.util.ArrayList;
import java.util.Arrays;
import java.util.Comparator;
import java.util.List;
import java.util.Random;

/** Runs of drawn calls on the class and on Naive, answer for answer. */
public final class NaiveTest {
  private static final String[] WORDS = {"size", "wall", "person", "pond", "spoon", "mirror", "eye", "cousins", "seats",
      "way", "tax", "twins", "soup", "go", "turn", "stir", "calm", "count", "told", "slips"};

  private final Random r;
  private int wrong = 0;
  private Naive asked;
  private int parish;
  private int evening;

  private NaiveTest(long seed) { r = new Random(seed); }

  public static void main(String[] args) throws Exception {
    int runs = args.length > 0 ? Integer.parseInt(args[0]) : 60;
    int first = args.length > 1 ? Integer.parseInt(args[1]) : 0;
    int wrong = 0;
    long calls = 0;
    for (int run = first; run < first + runs; run++) {
      NaiveTest t = new NaiveTest(run);
      calls += t.run(run);
      wrong += t.wrong;
    }
    System.out.println("NaiveTest: " + runs + " runs, " + calls + " calls, " + wrong + " not as due");
    if (wrong != 0) System.exit(1);
  }

  private int run(int run) throws Exception {
    ReflectCensus c = new ReflectCensus();
    Naive n = new Naive();
    List<Method> methods = new ArrayList<>();
    for (Method m : ReflectCensus.class.getDeclaredMethods()) {
      if (java.lang.reflect.Modifier.isPublic(m.getModifiers())) methods.add(m);
    }
    methods.sort(Comparator.comparing(Method::getName));
    int calls = 0;
    while (calls < 480) {
      if (calls == 0 || r.nextInt(12) == 0) {
        int sorts = calls == 0 ? 4 : 1;
        for (int k = 0; k < sorts; k++) calls += tell(run, c, n, sorts == 4 ? k : r.nextInt(4));
      } else {
        Method m = methods.get(r.nextInt(methods.size()));
        String name = m.getName();
        // what empties, cuts or replaces all is called seldom, so that there is something to ask about
        if (List.of("feed", "text", "end", "again").contains(name) && r.nextInt(4) != 0) continue;
        call(run, c, n, m, arguments(m, n));
        calls++;
      }
    }
    return calls;
  }

  private void call(int run, Object c, Object n, Method m, Object[] a) throws Exception {
    Object got = m.invoke(c, a);
    Object want = Naive.class.getMethod(m.getName(), m.getParameterTypes()).invoke(n, a);
    if (!got.equals(want)) {
      wrong++;
      System.out.println("run " + run + ": " + m.getName() + Arrays.toString(a) + " answered " + got + ", due is " + want);
    }
  }

  private Object[] arguments(Method m, Naive n) {
    Class<?>[] types = m.getParameterTypes();
    Object[] a = new Object[types.length];
    asked = n;
    parish = place();
    evening = place();
    for (int k = 0; k < a.length; k++) {
      if (types[k] == boolean.class) { a[k] = r.nextBoolean(); continue; }
      a[k] = odd() ? oddNumber() : argument(m.getName(), k);
    }
    return a;
  }

  private boolean odd() { return r.nextInt(25) == 0; }

  private int oddNumber() {
    int[] some = {-1, -2, -3, 8, 9, 5, 10, 40, 41, 64, 99, 100, Integer.MAX_VALUE, Integer.MIN_VALUE, 1 << 30};
    return some[r.nextInt(some.length)];
  }

  /** The ways in which a call's k-th number is mostly meant. */
  private int argument(String name, int k) {
    boolean underLaw = List.of("counted", "party", "spoon", "stop", "state", "drawn", "stand", "turned", "together",
        "prize", "rest", "fits", "wind", "puddle", "barred", "known").contains(name);
    if (k == 0 && (underLaw || List.of("parish", "square", "looks", "degree", "way", "round", "clan", "alone").contains(name))) return parish;
    if (k == 1 && underLaw) return place();
    switch (name) {
      case "feed": return r.nextInt();
      case "end": return r.nextInt(60);
      case "text": return k == 0 ? r.nextInt(4) : r.nextInt(3) - 1;
      case "fault": return r.nextInt(3);
      case "count": return r.nextInt(5);
      case "image": case "again": return r.nextInt(3);
      case "parish": return r.nextInt(3) == 0 ? r.nextInt(5) : r.nextInt(84);
      case "square": case "way": return square();
      case "law": return k == 0 ? place() : r.nextInt(7);
      case "deed": return k == 0 ? evening : k == 1 ? r.nextInt(deeds() + 1) - 1 : r.nextInt(4);
      case "sight": return k == 0 ? place() : r.nextInt(4) == 0 ? 0 : 9 + r.nextInt(10);
      case "looks": return k == 1 ? shine() : r.nextInt(8);
      case "degree": return k == 1 ? shine() : person();
      case "counted": return r.nextInt(4) == 0 ? -1 : shine();
      case "party": case "spoon": return r.nextInt(4);
      case "stop": return evening;
      case "state": return k == 2 ? evening : k == 3 ? stateNumber() : what();
      case "drawn": return k == 2 ? r.nextInt() : k == 3 ? r.nextInt(42) : what();
      case "turned": case "clan": return shine();
      case "stand": case "together": return person();
      case "prize": return k == 2 ? r.nextInt(2) : r.nextInt(64);
      case "rest": return r.nextInt(10) - 1;
      case "round": return k == 1 ? square() : r.nextInt(3) == 0 ? -1 : r.nextInt(25);
      case "fits": return k == 2 ? place() : r.nextInt(2) == 0 ? r.nextInt(5) : 5 + r.nextInt(40);
      case "wind": return r.nextInt(11);
      case "alone": return r.nextInt(5);
      case "known": return r.nextInt(4) == 0 ? -1 : person();
      default: return place();
    }
  }

  private int place() { return r.nextInt(3) == 0 ? 1 : 0; }

  private int below(int n) { return r.nextInt(Math.max(n, 1)); }

  private int person() { return below(asked.parish(parish, 2)); }

  private int shine() { return below(asked.parish(parish, 3)); }

  private int square() { return below(asked.parish(parish, 0) * asked.parish(parish, 1)); }

  private int deeds() { return Math.max(asked.deed(evening, -1, 0), 0); }

  private int stateNumber() {
    int stop = asked.stop(parish, 0, evening);
    return r.nextInt(8) == 0 ? stop + 1 : below(stop + 1);
  }

  private int what() {
    if (r.nextInt(6) == 0) return r.nextInt(3);
    int row = 1 + r.nextInt(7);
    return 10 * row + (r.nextInt(15) == 0 ? r.nextInt(10) : row <= 2 ? person() : shine());
  }

  private int tell(int run, ReflectCensus c, Naive n, int sort) throws Exception {
    StringBuilder text = new StringBuilder(switch (sort) {
      case 0 -> parish();
      case 1 -> law();
      case 2 -> evening();
      default -> sight();
    });
    if (r.nextInt(5) == 0) spoil(text);
    byte[] b = text.toString().getBytes(java.nio.charset.StandardCharsets.ISO_8859_1);
    Method feed = ReflectCensus.class.getMethod("feed", int.class, int.class, int.class, int.class, int.class);
    Method end = ReflectCensus.class.getMethod("end", int.class);
    Method take = ReflectCensus.class.getMethod("text", int.class, int.class);
    Method fault = ReflectCensus.class.getMethod("fault", int.class);
    int calls = 0;
    if (r.nextInt(10) != 0) call(run, c, n, end, new Object[] {0});
    for (int at = 0; at < b.length; at += 20, calls++) {
      call(run, c, n, feed, new Object[] {Due.word(b, at), Due.word(b, at + 4), Due.word(b, at + 8), Due.word(b, at + 12), Due.word(b, at + 16)});
    }
    call(run, c, n, end, new Object[] {b.length});
    int at = n.count(sort) >= 2 && r.nextInt(4) != 0 ? r.nextInt(2) : -1;
    call(run, c, n, take, new Object[] {sort, at});
    call(run, c, n, fault, new Object[] {0});
    call(run, c, n, fault, new Object[] {1});
    return calls + 5;
  }

  private void spoil(StringBuilder t) {
    int kind = r.nextInt(6);
    int at = r.nextInt(t.length() + 1);
    if (kind == 0) t.insert(at, (char) r.nextInt(256));
    else if (kind == 1 && t.length() > 0) t.deleteCharAt(r.nextInt(t.length()));
    else if (kind == 2) t.insert(at, r.nextInt(10));
    else if (kind == 3) t.setLength(at);
    else if (kind == 4) t.insert(at, WORDS[r.nextInt(WORDS.length)]);
    else t.insert(at, " \n;".charAt(r.nextInt(3)));
  }

  private String gap() { return r.nextInt(8) == 0 ? "\n" : r.nextInt(12) == 0 ? "  " : " "; }

  private String number(int v) { return v < 10 && r.nextInt(15) == 0 ? "0" + v : "" + v; }

  private String parish() {
    StringBuilder t = new StringBuilder();
    int wide = 6, high = 6;
    if (r.nextInt(5) != 0) {
      wide = 2 + r.nextInt(7);
      high = 2 + r.nextInt(7);
      t.append("size").append(gap()).append(wide).append(gap()).append(number(high)).append(';');
    }
    List<Integer> squares = new ArrayList<>();
    for (int q = 0; q < wide * high; q++) squares.add(q);
    java.util.Collections.shuffle(squares, r);
    int things = r.nextInt(r.nextInt(3) == 0 ? 64 : 22);
    int walls = r.nextInt(3);
    int most = r.nextInt(20) == 0 ? 9 : 8;
    int people = 0, shines = 0;
    for (int k = 0; k < things && !squares.isEmpty(); k++) {
      int q = r.nextInt(120) == 0 ? r.nextInt(wide * high) : squares.remove(0);
      int x = q % wide, y = q / wide;
      if (r.nextInt(200) == 0) x = 7;
      String at = gap() + number(x) + gap() + number(y);
      int kind = walls == 0 ? 1 + r.nextInt(4) : r.nextInt(5);
      if (kind == 0) t.append("wall").append(at);
      else if (kind <= 2 && people < most) { t.append("person").append(at).append(gap()).append(r.nextInt(r.nextInt(3) == 0 ? 10 : 3)); people++; }
      else if (shines < most) {
        t.append(WORDS[3 + r.nextInt(4)]).append(at).append(gap()).append(r.nextInt(8)).append(gap());
        t.append(number(1 + r.nextInt(r.nextBoolean() ? 9 : 3))).append(gap()).append(r.nextInt(4));
        shines++;
      } else if (walls == 2) {
        t.append("wall").append(at);
      } else {
        continue;
      }
      t.append(';');
      if (t.length() > 575) break;
    }
    return t.toString();
  }

  private String law() {
    StringBuilder t = new StringBuilder();
    int lines = r.nextInt(7);
    for (int k = 0; k < lines; k++) {
      switch (r.nextInt(8)) {
        case 0: case 1: t.append("cousins ").append(number(r.nextInt(10))); break;
        case 2: t.append("seats").append(gap()).append(number(1 + r.nextInt(r.nextInt(10) == 0 ? 22 : 20))); break;
        case 3: case 4: t.append("way ").append(r.nextInt(3)); break;
        case 5: t.append("tax ").append(r.nextInt(10)); break;
        case 6: t.append("twins"); break;
        default: t.append("soup ").append(WORDS[3 + r.nextInt(4)]);
      }
      t.append(r.nextInt(6) == 0 ? " ;\n" : ";");
    }
    return t.toString();
  }

  private String evening() {
    StringBuilder t = new StringBuilder();
    int lines = r.nextInt(30) == 0 ? 40 + r.nextInt(2) : r.nextInt(16);
    boolean mild = r.nextBoolean();
    for (int k = 0; k < lines; k++) {
      int hi = r.nextInt(30) == 0 ? 9 : r.nextInt(8) == 0 ? 8 : 3;
      switch (mild ? new int[] {0, 2, 3, 5}[r.nextInt(4)] : r.nextInt(6)) {
        case 0: case 1: t.append("go ").append(number(r.nextInt(hi))).append(gap()).append(r.nextInt(8)); break;
        case 2: t.append("turn ").append(r.nextInt(hi)).append(gap()).append(r.nextInt(8)); break;
        case 3: t.append("stir ").append(r.nextInt(hi)); break;
        case 4: t.append("calm ").append(r.nextInt(hi)); break;
        default: t.append("count");
      }
      t.append(';');
    }
    return t.toString();
  }

  private String sight() {
    StringBuilder t = new StringBuilder();
    int lines = r.nextInt(5);
    for (int k = 0; k < lines; k++) {
      if (r.nextInt(3) == 0) t.append("slips ").append(r.nextInt(r.nextBoolean() ? 3 : 10));
      else t.append("told ").append(r.nextInt(8)).append(gap()).append(number(r.nextInt(r.nextInt(3) == 0 ? 10 : 3)));
      t.append(';');
    }
    return t.toString();
  }
}
