import java.util.ArrayDeque;
import java.util.ArrayList;
import java.util.Arrays;
import java.util.HashSet;
import java.util.List;
import java.util.Set;
import java.util.TreeMap;

/** The document once more, in the slowest and plainest way, to hold the class against. */
public final class Naive {
  static final int NONE = -1;
  static final List<String> KINDS = List.of("pond", "spoon", "mirror", "eye");
  static final int[] DX = {0, 1, 1, 1, 0, -1, -1, -1};
  static final int[] DY = {-1, -1, 0, 1, 1, 1, 0, -1};

  record Person(int x, int y, int name) { }
  record Shine(int kind, int x, int y, int face, int size, int party, boolean stirred) {
    Shine facing(int f) { return new Shine(kind, x, y, f, size, party, stirred); }
    Shine with(boolean st) { return new Shine(kind, x, y, face, size, party, st); }
  }
  record Deed(int kind, int a, int b) { }
  record Law(int cousins, boolean twins, int soup, int seats, int way, int tax) { }
  record Sight(TreeMap<Integer, Integer> told, int slips) { }

  /** A parish, or one that was changed; people who are null are not there. */
  static final class Scene {
    int wide = 6, high = 6;
    Set<List<Integer>> walls = new HashSet<>();
    List<Person> people = new ArrayList<>();
    List<Shine> shines = new ArrayList<>();

    Scene copy() {
      Scene c = new Scene();
      c.wide = wide; c.high = high;
      c.walls = new HashSet<>(walls);
      c.people = new ArrayList<>(people);
      c.shines = new ArrayList<>(shines);
      return c;
    }
    boolean inside(int x, int y) { return x >= 0 && y >= 0 && x < wide && y < high; }
    int things(int x, int y) {
      int n = walls.contains(List.of(x, y)) ? 1 : 0;
      for (Person p : people) if (p != null && p.x == x && p.y == y) n++;
      for (Shine s : shines) if (s.x == x && s.y == y) n++;
      return n;
    }
    /** 0 nothing, 1 a wall or the end, 10 + p, 20 + s. */
    int at(int x, int y) {
      if (!inside(x, y) || walls.contains(List.of(x, y))) return 1;
      for (int p = 0; p < people.size(); p++) {
        Person q = people.get(p);
        if (q != null && q.x == x && q.y == y) return 10 + p;
      }
      for (int s = 0; s < shines.size(); s++) if (shines.get(s).x == x && shines.get(s).y == y) return 20 + s;
      return 0;
    }
    boolean free(int square) { return at(square % wide, square / wide) == 0; }
    List<Integer> freeSquares() {
      List<Integer> list = new ArrayList<>();
      for (int q = 0; q < wide * high; q++) if (free(q)) list.add(q);
      return list;
    }
    boolean open(int s, int d) {
      Shine h = shines.get(s);
      return switch (h.kind) {
        case 0 -> true;
        case 1 -> d == h.face;
        case 2 -> d == h.face || d == (h.face + 1) % 8 || d == (h.face + 7) % 8;
        default -> d == h.face || d == (h.face + 4) % 8;
      };
    }
    int meets(int s, int d) {
      Shine h = shines.get(s);
      if (h.stirred || !open(s, d)) return 0;
      for (int k = 1; ; k++) {
        int thing = at(h.x + k * DX[d], h.y + k * DY[d]);
        if (thing != 0) return thing;
      }
    }
    /** Degrees by the definition's own words: again and again until nothing changes. */
    int[][] degrees() {
      int[][] deg = new int[shines.size()][people.size()];
      for (int[] row : deg) Arrays.fill(row, 1000);
      for (int round = 0; round <= shines.size() + 1; round++) {
        for (int s = 0; s < shines.size(); s++) {
          for (int d = 0; d < 8; d++) {
            int thing = meets(s, d);
            if (thing >= 20) {
              for (int p = 0; p < people.size(); p++) deg[s][p] = Math.min(deg[s][p], deg[thing - 20][p] + 1);
            } else if (thing >= 10) {
              deg[s][thing - 10] = 0;
            }
          }
        }
      }
      return deg;
    }
    int heads(int s, Law law, int[][] deg) {
      if ((law.soup >> shines.get(s).kind & 1) == 1) return 0;
      List<Integer> names = new ArrayList<>();
      for (int p = 0; p < people.size(); p++) if (deg[s][p] <= law.cousins) names.add(people.get(p).name);
      return law.twins ? names.size() : new HashSet<>(names).size();
    }
    int[] counts(Law law) {
      int[][] deg = degrees();
      int[] c = new int[shines.size()];
      for (int s = 0; s < c.length; s++) c[s] = Math.min(shines.get(s).size, heads(s, law, deg));
      return c;
    }
    int sum(Law law) { return Arrays.stream(counts(law)).sum(); }
    int[] totals(Law law) {
      int[] t = new int[4];
      int[] c = counts(law);
      for (int s = 0; s < c.length; s++) t[shines.get(s).party] += c[s];
      return t;
    }
    Scene placed(int p, int square) {
      Scene c = copy();
      c.people.set(p, new Person(square % wide, square / wide, people.get(p).name));
      return c;
    }
    int squareOf(int p) { return wide * people.get(p).y + people.get(p).x; }
  }

  static int[] seats(int[] totals, Law law) {
    int[] got = new int[4];
    int all = Arrays.stream(totals).sum();
    if (all == 0) return got;
    if (law.way == 2) {
      List<Integer> order = new ArrayList<>(List.of(0, 1, 2, 3));
      order.sort((a, b) -> Integer.compare(totals[b] * law.seats % all, totals[a] * law.seats % all));
      int left = law.seats;
      for (int p = 0; p < 4; p++) { got[p] = totals[p] * law.seats / all; left -= got[p]; }
      for (int k = 0; k < left; k++) got[order.get(k)]++;
      return got;
    }
    for (int k = 0; k < law.seats; k++) {
      int best = 0;
      for (int p = 0; p < 4; p++) {
        // all divisors divide this product, so that quotients are whole numbers
        long base = 1;
        for (int i = 0; i < 4; i++) base *= div(got[i], law);
        if (totals[p] * base / div(got[p], law) > totals[best] * base / div(got[best], law)) best = p;
      }
      got[best]++;
    }
    return got;
  }
  static long div(int had, Law law) { return law.way == 0 ? had + 1 : 2 * had + 1; }

  // ---- all that is told

  static final class Told {
    List<Scene> parishes = new ArrayList<>();
    List<Law> laws = new ArrayList<>();
    List<List<Deed>> evenings = new ArrayList<>();
    List<Sight> sights = new ArrayList<>();
    List<Integer> tape = new ArrayList<>();
    int fault = 0, place = NONE;
    Told copy() {
      Told t = new Told();
      t.parishes.addAll(parishes); t.laws.addAll(laws); t.evenings.addAll(evenings); t.sights.addAll(sights);
      t.tape.addAll(tape); t.fault = fault; t.place = place;
      return t;
    }
    List<?> of(int sort) {
      return switch (sort) { case 0 -> parishes; case 1 -> laws; case 2 -> evenings; default -> sights; };
    }
  }

  private Told now = new Told();
  private final Told[] images = new Told[3];

  public int feed(int a, int b, int c, int d, int e) {
    if (now.tape.size() + 20 > 600) return NONE;
    for (int v : new int[] {a, b, c, d, e}) for (int k = 3; k >= 0; k--) now.tape.add(v >>> 8 * k & 255);
    return now.tape.size();
  }
  public int end(int n) {
    if (n < 0 || n > now.tape.size()) return NONE;
    now.tape = new ArrayList<>(now.tape.subList(0, n));
    return n;
  }

  record Token(String word, int place) { }

  /** Tokens; a byte or row that is none is told as "?", the end as "". */
  static List<Token> tokens(List<Integer> tape) {
    StringBuilder b = new StringBuilder();
    for (int v : tape) b.append((char) v);
    List<Token> list = new ArrayList<>();
    java.util.regex.Matcher m = java.util.regex.Pattern.compile("[a-z]+|[0-9]+|[ \\n]+|(?s:.)").matcher(b);
    while (m.find()) {
      String t = m.group();
      if (t.isBlank() && t.matches("[ \\n]+")) continue;
      boolean good = t.matches("[a-z]+|[0-9]{1,2}|;");
      list.add(new Token(good ? t : "?", m.start()));
    }
    list.add(new Token("", tape.size()));
    return list;
  }

  static String[] forms(int sort) {
    // a form: word, then ranges least-most, or KIND
    return switch (sort) {
      case 0 -> new String[] {"size 2-8 2-8", "wall 0-7 0-7", "person 0-7 0-7 0-9", "pond 0-7 0-7 0-7 1-9 0-3",
          "spoon 0-7 0-7 0-7 1-9 0-3", "mirror 0-7 0-7 0-7 1-9 0-3", "eye 0-7 0-7 0-7 1-9 0-3"};
      case 1 -> new String[] {"cousins 0-9", "seats 1-20", "way 0-2", "tax 0-9", "twins", "soup KIND"};
      case 2 -> new String[] {"go 0-7 0-7", "turn 0-7 0-7", "stir 0-7", "calm 0-7", "count"};
      default -> new String[] {"told 0-7 0-9", "slips 0-9"};
    };
  }

  record Line(String word, List<Integer> numbers, String kind) { }

  /** {fault, place} and the lines. */
  static int[] parse(int sort, List<Integer> tape, List<Line> lines) {
    List<Token> ts = tokens(tape);
    int i = 0, people = 0, shines = 0, deeds = 0;
    TreeMap<Integer, Integer> soft = new TreeMap<>();
    while (!ts.get(i).word.isEmpty()) {
      String[] form = null;
      for (String f : forms(sort)) if (f.split(" ")[0].equals(ts.get(i).word)) form = f.split(" ");
      if (form == null) return new int[] {1, ts.get(i).place};
      boolean many = false;
      if (form[0].equals("person")) many = ++people > 8;
      if (KINDS.contains(form[0])) many = ++shines > 8;
      if (sort == 2) many = ++deeds > 40;
      if (many) soft.putIfAbsent(ts.get(i).place, 3);
      i++;
      List<Integer> numbers = new ArrayList<>();
      String kind = null;
      for (int k = 1; k < form.length; k++, i++) {
        String w = ts.get(i).word;
        if (form[k].equals("KIND")) {
          if (!KINDS.contains(w)) return new int[] {1, ts.get(i).place};
          kind = w;
        } else {
          if (!w.matches("[0-9]+")) return new int[] {1, ts.get(i).place};
          int v = Integer.parseInt(w);
          String[] r = form[k].split("-");
          if (v < Integer.parseInt(r[0]) || v > Integer.parseInt(r[1])) soft.putIfAbsent(ts.get(i).place, 2);
          numbers.add(v);
        }
      }
      if (!ts.get(i).word.equals(";")) return new int[] {1, ts.get(i).place};
      i++;
      lines.add(new Line(form[0], numbers, kind));
    }
    if (!soft.isEmpty()) return new int[] {soft.firstEntry().getValue(), soft.firstKey()};
    return new int[] {0, NONE};
  }

  @SuppressWarnings("unchecked")
  public int text(int sort, int at) {
    List<Integer> tape = now.tape;
    now.tape = new ArrayList<>();
    now.fault = 0; now.place = NONE;
    if (sort < 0 || sort > 3) return -2;
    List<Object> list = (List<Object>) now.of(sort);
    if (at == NONE ? list.size() >= 2 : at < 0 || at >= list.size()) return -2;
    List<Line> lines = new ArrayList<>();
    int[] f = parse(sort, tape, lines);
    Object made = null;
    if (f[0] == 0) {
      switch (sort) {
        case 0 -> {
          Scene sc = scene(lines);
          int bad = faultOf(sc);
          if (bad != 0) f = new int[] {bad, tape.size()};
          made = sc;
        }
        case 1 -> made = lawOf(lines);
        case 2 -> made = eveningOf(lines);
        default -> made = sightOf(lines);
      }
    }
    now.fault = f[0]; now.place = f[1];
    if (f[0] != 0) return NONE;
    if (at == NONE) { list.add(made); return list.size() - 1; }
    list.set(at, made);
    return at;
  }
  static Scene scene(List<Line> lines) {
    Scene sc = new Scene();
    for (Line l : lines) {
      List<Integer> n = l.numbers;
      if (l.word.equals("size")) { sc.wide = n.get(0); sc.high = n.get(1); }
      else if (l.word.equals("wall")) sc.walls.add(List.of(n.get(0), n.get(1)));
      else if (l.word.equals("person")) sc.people.add(new Person(n.get(0), n.get(1), n.get(2)));
      else sc.shines.add(new Shine(KINDS.indexOf(l.word), n.get(0), n.get(1), n.get(2), n.get(3), n.get(4), false));
    }
    return sc;
  }
  static int faultOf(Scene sc) {
    for (List<Integer> w : sc.walls) if (!sc.inside(w.get(0), w.get(1))) return 4;
    for (Person p : sc.people) if (!sc.inside(p.x, p.y)) return 4;
    for (Shine s : sc.shines) if (!sc.inside(s.x, s.y)) return 4;
    for (int x = 0; x < 8; x++) for (int y = 0; y < 8; y++) if (sc.things(x, y) > 1) return 5;
    return 0;
  }
  static Law lawOf(List<Line> lines) {
    int cousins = 0, soup = 0, seats = 5, way = 0, tax = 1;
    boolean twins = true;
    for (Line l : lines) {
      switch (l.word) {
        case "cousins" -> cousins = l.numbers.get(0);
        case "seats" -> seats = l.numbers.get(0);
        case "way" -> way = l.numbers.get(0);
        case "tax" -> tax = l.numbers.get(0);
        case "twins" -> twins = false;
        default -> soup |= 1 << KINDS.indexOf(l.kind);
      }
    }
    return new Law(cousins, twins, soup, seats, way, tax);
  }
  static List<Deed> eveningOf(List<Line> lines) {
    List<Deed> deeds = new ArrayList<>();
    for (Line l : lines) {
      int k = List.of("go", "turn", "stir", "calm", "count").indexOf(l.word);
      deeds.add(new Deed(k, l.numbers.size() > 0 ? l.numbers.get(0) : NONE, l.numbers.size() > 1 ? l.numbers.get(1) : NONE));
    }
    return deeds;
  }
  static Sight sightOf(List<Line> lines) {
    TreeMap<Integer, Integer> told = new TreeMap<>();
    int slips = 0;
    for (Line l : lines) {
      if (l.word.equals("slips")) slips = l.numbers.get(0);
      else told.put(l.numbers.get(0), l.numbers.get(1));
    }
    return new Sight(told, slips);
  }

  public int fault(int what) { return what == 0 ? now.fault : what == 1 ? now.place : NONE; }

  static <T> T in(List<T> list, int k) { return k < 0 || k >= list.size() ? null : list.get(k); }
  private Scene sc(int k) { return in(now.parishes, k); }
  private Law lw(int k) { return in(now.laws, k); }

  public int parish(int parish, int what) {
    Scene p = sc(parish);
    if (p == null || what < 0) return NONE;
    if (what < 4) return new int[] {p.wide, p.high, p.people.size(), p.shines.size()}[what];
    int row = what / 10, k = what % 10;
    if (row == 1 || row == 2) {
      Person q = in(p.people, k);
      return q == null ? NONE : row == 1 ? p.squareOf(k) : q.name;
    }
    Shine s = in(p.shines, k);
    if (row < 3 || row > 7 || s == null) return NONE;
    return new int[] {s.kind, p.wide * s.y + s.x, s.face, s.size, s.party}[row - 3];
  }
  public int square(int parish, int square) {
    Scene p = sc(parish);
    if (p == null || square < 0 || square >= p.wide * p.high) return NONE;
    return p.at(square % p.wide, square / p.wide);
  }
  public int law(int law, int what) {
    Law l = lw(law);
    if (l == null || what < 0 || what > 5) return NONE;
    return new int[] {l.cousins, l.twins ? 1 : 0, l.soup, l.seats, l.way, l.tax}[what];
  }
  public int deed(int evening, int k, int what) {
    List<Deed> e = in(now.evenings, evening);
    if (e == null) return -2;
    if (k == NONE && what == 0) return e.size();
    Deed d = in(e, k);
    if (d == null || what < 0 || what > 2) return -2;
    return what == 0 ? d.kind : what == 1 ? d.a : d.b;
  }
  public int looks(int parish, int shine, int direction) {
    Scene p = sc(parish);
    if (p == null || in(p.shines, shine) == null || direction < 0 || direction > 7) return -2;
    int thing = p.meets(shine, direction);
    return thing >= 20 ? thing - 10 : thing >= 10 ? thing - 10 : NONE;
  }
  public int degree(int parish, int shine, int person) {
    Scene p = sc(parish);
    if (p == null || in(p.shines, shine) == null || in(p.people, person) == null) return -2;
    int d = p.degrees()[shine][person];
    return d >= 1000 ? NONE : d;
  }
  public int counted(int parish, int law, int shine) {
    Scene p = sc(parish);
    Law l = lw(law);
    if (p == null || l == null) return NONE;
    if (shine == NONE) return p.sum(l);
    return in(p.shines, shine) == null ? NONE : p.counts(l)[shine];
  }
  public int party(int parish, int law, int party, boolean seats) {
    Scene p = sc(parish);
    Law l = lw(law);
    if (p == null || l == null || party < 0 || party > 3) return NONE;
    return seats ? seats(p.totals(l), l)[party] : p.totals(l)[party];
  }

  // ---- evenings

  static final class Night {
    Scene at;
    int counts;
    int[] taxed = new int[8], gained = new int[8];
    Night(Scene s) { at = s.copy(); }
    boolean go(int p, int d) {
      Person q = in(at.people, p);
      if (q == null) return false;
      if (at.at(q.x + DX[d], q.y + DY[d]) != 0) return false;
      at.people.set(p, new Person(q.x + DX[d], q.y + DY[d], q.name));
      return true;
    }
    boolean turn(int s, int d) {
      if (in(at.shines, s) == null) return false;
      at.shines.set(s, at.shines.get(s).facing(d));
      return true;
    }
    boolean stir(int s, boolean to) {
      if (in(at.shines, s) == null || at.shines.get(s).stirred == to) return false;
      at.shines.set(s, at.shines.get(s).with(to));
      return true;
    }
    boolean count(Law l) {
      counts++;
      int[] c = at.counts(l);
      int[][] deg = at.degrees();
      for (int s = 0; s < c.length; s++) {
        gained[s] += c[s];
        for (int p = 0; p < at.people.size(); p++) {
          if (deg[s][p] <= l.cousins && (l.soup >> at.shines.get(s).kind & 1) == 0) taxed[p] += l.tax;
        }
      }
      return true;
    }
    boolean does(Deed d, Law l) {
      return switch (d.kind) {
        case 0 -> go(d.a, d.b);
        case 1 -> turn(d.a, d.b);
        case 2 -> stir(d.a, true);
        case 3 -> stir(d.a, false);
        default -> count(l);
      };
    }
    int tell(Law l, int what) {
      if (what == 0) return counts;
      if (what == 1) return at.sum(l);
      if (what < 10) return -2;
      int row = what / 10, k = what % 10;
      if (row <= 2) return in(at.people, k) == null ? -2 : row == 1 ? at.squareOf(k) : taxed[k];
      if (row > 6 || in(at.shines, k) == null) return -2;
      Shine s = at.shines.get(k);
      return row == 3 ? s.face : row == 4 ? gained[k] : row == 5 ? (s.stirred ? 1 : 0) : at.counts(l)[k];
    }
  }

  public int stop(int parish, int law, int evening) {
    Scene p = sc(parish);
    Law l = lw(law);
    List<Deed> e = in(now.evenings, evening);
    if (p == null || l == null || e == null) return NONE;
    Night n = new Night(p);
    for (int k = 0; k < e.size(); k++) if (!n.does(e.get(k), l)) return k;
    return e.size();
  }
  public int state(int parish, int law, int evening, int n, int what) {
    int stop = stop(parish, law, evening);
    if (stop == NONE || n < 0 || n > stop) return -2;
    Night night = new Night(sc(parish));
    for (int k = 0; k < n; k++) night.does(now.evenings.get(evening).get(k), lw(law));
    return night.tell(lw(law), what);
  }
  public int drawn(int parish, int law, int seed, int n, int what) {
    Scene p = sc(parish);
    Law l = lw(law);
    if (p == null || l == null || n < 0 || n > 40 || what / 10 == 5) return -2;
    Night night = new Night(p);
    long[] x = {seed & 0xffffffffL};
    for (int k = 0; k < n; k++) {
      int lot = draw(x, 4);
      if (lot < 2 && p.people.size() > 0) {
        int who = draw(x, p.people.size());
        night.go(who, draw(x, 8));
      }
      if (lot == 2 && p.shines.size() > 0) {
        int what2 = draw(x, p.shines.size());
        night.turn(what2, draw(x, 8));
      }
      if (lot == 3) night.count(l);
    }
    return night.tell(l, what);
  }
  static int draw(long[] x, int below) {
    x[0] = (x[0] * 1103515245L + 12345L) & 0xffffffffL;
    return (int) ((x[0] >> 16) % below);
  }

  // ---- choices

  public int stand(int parish, int law, int person, boolean fewest, boolean sum) {
    Scene p = sc(parish);
    Law l = lw(law);
    if (p == null || l == null || in(p.people, person) == null) return NONE;
    int best = NONE, where = NONE;
    for (int q = 0; q < p.wide * p.high; q++) {
      if (!p.free(q) && q != p.squareOf(person)) continue;
      int v = p.placed(person, q).sum(l);
      if (where == NONE || (fewest ? v < best : v > best)) { best = v; where = q; }
    }
    return sum ? best : where;
  }
  public int together(int parish, int law, int a, int b, boolean sum) {
    Scene p = sc(parish);
    Law l = lw(law);
    if (p == null || l == null || a == b || in(p.people, a) == null || in(p.people, b) == null) return NONE;
    List<Integer> may = p.freeSquares();
    may.add(p.squareOf(a));
    may.add(p.squareOf(b));
    int best = NONE, where = NONE;
    for (int x : may) {
      for (int y : may) {
        if (x == y) continue;
        int v = p.placed(a, x).placed(b, y).sum(l);
        int at = 64 * x + y;
        if (v > best || v == best && at < where) { best = v; where = at; }
      }
    }
    return sum ? best : where;
  }
  public int turned(int parish, int law, int shine, boolean sum) {
    Scene p = sc(parish);
    Law l = lw(law);
    if (p == null || l == null || in(p.shines, shine) == null) return NONE;
    int best = NONE, where = NONE;
    for (int f = 7; f >= 0; f--) {
      int v = facing(p, shine, f).sum(l);
      if (v >= best) { best = v; where = f; }
    }
    return sum ? best : where;
  }
  static Scene facing(Scene p, int shine, int f) {
    Scene c = p.copy();
    c.shines.set(shine, p.shines.get(shine).facing(f));
    return c;
  }
  public int spoon(int parish, int law, int party, boolean seats) {
    Scene p = sc(parish);
    Law l = lw(law);
    if (p == null || l == null || party < 0 || party > 3 || p.shines.size() == 8) return NONE;
    int best = NONE, where = NONE;
    for (int q : p.freeSquares()) {
      for (int f = 0; f < 8; f++) {
        Scene c = p.copy();
        c.shines.add(new Shine(1, q % p.wide, q / p.wide, f, 9, party, false));
        int v = seats(c.totals(l), l)[party];
        if (v > best) { best = v; where = 8 * q + f; }
      }
    }
    return seats ? best : where;
  }
  private int least(Scene p, int party) {
    for (int s = 0; s < p.shines.size(); s++) if (p.shines.get(s).party == party) return s;
    return NONE;
  }
  public int prize(int parish, int law, int who, int couple) {
    Scene p = sc(parish);
    Law l = lw(law);
    if (p == null || l == null || who < 0 || who > 1 || couple < 0 || couple > 63) return NONE;
    if (least(p, 0) == NONE || least(p, 1) == NONE) return NONE;
    return facing(facing(p, least(p, 0), couple / 8), least(p, 1), couple % 8).totals(l)[who];
  }
  public int rest(int parish, int law, int k) {
    if (prize(parish, law, 0, 0) == NONE) return NONE;
    int[][] pay = new int[2][64];
    for (int c = 0; c < 64; c++) for (int w = 0; w < 2; w++) pay[w][c] = prize(parish, law, w, c);
    List<Integer> rests = new ArrayList<>();
    for (int c = 0; c < 64; c++) {
      boolean calm = true;
      for (int o = 0; o < 64; o++) {
        if (o % 8 == c % 8 && pay[0][o] > pay[0][c]) calm = false;
        if (o / 8 == c / 8 && pay[1][o] > pay[1][c]) calm = false;
      }
      if (calm) rests.add(c);
    }
    if (k == NONE) return rests.size();
    return in(rests, k) == null ? NONE : rests.get(k);
  }
  public int barred(int parish, int law, boolean sum) {
    Scene p = sc(parish);
    Law l = lw(law);
    if (p == null || l == null) return NONE;
    int best = NONE, where = NONE;
    for (int q : p.freeSquares()) {
      Scene c = p.copy();
      c.walls.add(List.of(q % p.wide, q / p.wide));
      int v = c.sum(l);
      if (where == NONE || v < best) { best = v; where = q; }
    }
    return sum ? best : where;
  }

  // ---- steps

  public int way(int parish, int from, int to) {
    Scene p = sc(parish);
    if (square(parish, from) == NONE || square(parish, to) == NONE) return NONE;
    if (square(parish, from) == 1 || square(parish, to) == 1) return NONE;
    int[] steps = new int[p.wide * p.high];
    Arrays.fill(steps, 1000);
    steps[from] = 0;
    for (int k = 0; k < 64; k++) {
      for (int q = 0; q < steps.length; q++) {
        if (square(parish, q) == 1) continue;
        for (int d = 0; d < 8; d += 2) {
          int x = q % p.wide + DX[d], y = q / p.wide + DY[d];
          if (p.inside(x, y) && !p.walls.contains(List.of(x, y))) steps[q] = Math.min(steps[q], steps[p.wide * y + x] + 1);
        }
      }
    }
    return steps[to] >= 1000 ? NONE : steps[to];
  }
  /** Breadth first over squares and sets of shines that he came onto: another way than the class's. */
  public int round(int parish, int from, int t) {
    Scene p = sc(parish);
    if (p == null || square(parish, from) == NONE || square(parish, from) == 1 || t < -1 || t > 99) return -2;
    int all = (1 << p.shines.size()) - 1;
    int[] dist = new int[64 * 256];
    Arrays.fill(dist, NONE);
    ArrayDeque<Integer> queue = new ArrayDeque<>();
    int start = 256 * from + bit(parish, from);
    dist[start] = 0;
    queue.add(start);
    int most = 0;
    while (!queue.isEmpty()) {
      int at = queue.poll();
      int q = at / 256, set = at % 256;
      if (t == NONE && set == all) return dist[at];
      if (t != NONE && dist[at] <= t) most = Math.max(most, Integer.bitCount(set));
      for (int d = 0; d < 8; d += 2) {
        int x = q % p.wide + DX[d], y = q / p.wide + DY[d];
        if (!p.inside(x, y) || p.walls.contains(List.of(x, y))) continue;
        int n = p.wide * y + x;
        int next = 256 * n + (set | bit(parish, n));
        if (dist[next] == NONE) { dist[next] = dist[at] + 1; queue.add(next); }
      }
    }
    return t == NONE ? NONE : most;
  }
  private int bit(int parish, int q) {
    int thing = square(parish, q);
    return thing >= 20 ? 1 << (thing - 20) : 0;
  }

  // ---- sights, wind and the rest

  public int sight(int sight, int what) {
    Sight s = in(now.sights, sight);
    if (s == null) return -2;
    if (what == 0) return s.slips;
    return what < 10 || what > 17 ? -2 : s.told.getOrDefault(what - 10, NONE);
  }
  public int fits(int parish, int law, int sight, int what) {
    Scene p = sc(parish);
    Law l = lw(law);
    Sight s = in(now.sights, sight);
    if (p == null || l == null || s == null) return -2;
    List<Integer> sets = new ArrayList<>();
    List<int[]> counts = new ArrayList<>();
    int fewest = Integer.MAX_VALUE;
    for (int set = 0; set < 1 << p.people.size(); set++) {
      Scene c = p.copy();
      for (int q = 0; q < p.people.size(); q++) if ((set >> q & 1) == 0) c.people.set(q, null);
      int[] n = c.counts(l);
      int diff = 0;
      for (int h = 0; h < n.length; h++) if (s.told.containsKey(h)) diff += Math.abs(n[h] - s.told.get(h));
      fewest = Math.min(fewest, diff);
      if (diff <= s.slips) { sets.add(set); counts.add(n); }
    }
    if (what == 0) return sets.size();
    if (what == 3) return fewest;
    if (what >= 10) return in(sets, what - 10) == null ? -2 : sets.get(what - 10);
    if (what < 0 || what > 4) return -2;
    if (sets.isEmpty()) return NONE;
    if (what == 1 || what == 2) {
      int bits = 0;
      for (int q = 0; q < p.people.size(); q++) {
        boolean all = true, none = true;
        for (int set : sets) if ((set >> q & 1) == 1) none = false; else all = false;
        if (what == 1 ? all : none) bits |= 1 << q;
      }
      return bits;
    }
    int best = NONE, least = Integer.MAX_VALUE;
    for (int h = 0; h < p.shines.size(); h++) {
      TreeMap<Integer, Integer> groups = new TreeMap<>();
      for (int[] n : counts) groups.merge(n[h], 1, Integer::sum);
      int most = groups.values().stream().max(Integer::compare).get();
      if (most < least) { least = most; best = h; }
    }
    return best;
  }
  /** All cases of stirred ponds one by one, each with its weight. */
  public int wind(int parish, int law, int n, boolean under) {
    Scene p = sc(parish);
    Law l = lw(law);
    if (p == null || l == null || n < 1 || n > 9) return NONE;
    Law near = new Law(0, l.twins, l.soup, l.seats, l.way, l.tax);
    List<Integer> ponds = new ArrayList<>();
    for (int s = 0; s < p.shines.size(); s++) if (p.shines.get(s).kind == 0) ponds.add(s);
    long over = 0, below = 1;
    for (int k = 0; k < ponds.size(); k++) below *= n;
    for (int set = 0; set < 1 << ponds.size(); set++) {
      Scene c = p.copy();
      long weight = 1;
      for (int k = 0; k < ponds.size(); k++) {
        boolean st = (set >> k & 1) == 1;
        if (!st) weight *= n - 1;
        int s = ponds.get(k);
        c.shines.set(s, c.shines.get(s).with(st));
      }
      over += weight * c.sum(near);
    }
    long g = java.math.BigInteger.valueOf(over).gcd(java.math.BigInteger.valueOf(below)).longValue();
    return (int) ((under ? below : over) / g);
  }
  public int clan(int parish, int shine) {
    Scene p = sc(parish);
    if (p == null || in(p.shines, shine) == null) return NONE;
    int bits = 0;
    ArrayDeque<Integer> todo = new ArrayDeque<>(List.of(shine));
    while (!todo.isEmpty()) {
      int s = todo.pop();
      if ((bits >> s & 1) == 1) continue;
      bits |= 1 << s;
      for (int d = 0; d < 8; d++) if (p.meets(s, d) >= 20) todo.push(p.meets(s, d) - 20);
    }
    return bits;
  }
  public int puddle(int parish, int law, boolean many) {
    Scene p = sc(parish);
    Law l = lw(law);
    if (p == null || l == null || p.shines.isEmpty()) return NONE;
    int best = NONE, where = NONE;
    for (int s = 0; s < p.shines.size(); s++) {
      int v = p.heads(s, l, p.degrees());
      if (v > best) { best = v; where = s; }
    }
    return many ? best : where;
  }
  public int alone(int parish, int what) {
    Scene p = sc(parish);
    if (p == null || what < 0 || what > 3) return -2;
    int[][] deg = p.degrees();
    int blind = 0, lone = 0, glances = 0, deep = NONE;
    for (int q = 0; q < p.people.size(); q++) {
      boolean any = false;
      for (int[] row : deg) any |= row[q] < 1000;
      if (!any) blind |= 1 << q;
    }
    for (int s = 0; s < p.shines.size(); s++) {
      boolean any = false;
      for (int v : deg[s]) if (v < 1000) { any = true; deep = Math.max(deep, v); }
      if (!any) lone |= 1 << s;
      for (int t = s + 1; t < p.shines.size(); t++) if (looksAt(p, s, t) && looksAt(p, t, s)) glances++;
    }
    return new int[] {blind, lone, glances, deep}[what];
  }
  static boolean looksAt(Scene p, int s, int t) {
    for (int d = 0; d < 8; d++) if (p.meets(s, d) == 20 + t) return true;
    return false;
  }
  public int known(int parish, int law, int person) {
    Scene p = sc(parish);
    Law l = lw(law);
    if (p == null || l == null) return NONE;
    int[][] deg = p.degrees();
    int best = NONE, who = NONE;
    for (int q = 0; q < p.people.size(); q++) {
      int v = 0;
      for (int[] row : deg) if (row[q] <= l.cousins) v++;
      if (q == person) return v;
      if (v > best) { best = v; who = q; }
    }
    return person == NONE ? who : NONE;
  }
  public int count(int sort) { return sort < 0 || sort > 3 ? -2 : now.of(sort).size(); }
  public boolean image(int k) {
    if (k < 0 || k > 2) return false;
    images[k] = now.copy();
    return true;
  }
  public boolean again(int k) {
    if (k < 0 || k > 2 || images[k] == null) return false;
    now = images[k].copy();
    return true;
  }
}
