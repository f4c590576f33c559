import java.lang.management.ManagementFactory;
import java.lang.reflect.Constructor;
import java.lang.reflect.Field;
import java.lang.reflect.Member;
import java.lang.reflect.Method;
import java.lang.reflect.Modifier;
import java.nio.file.Files;
import java.nio.file.Path;
import java.util.ArrayList;
import java.util.Arrays;
import java.util.List;
import java.util.Set;
import java.util.TreeSet;
import java.util.regex.Matcher;
import java.util.regex.Pattern;

/** The document's face, the rules of LANGUAGE.md that can be seen from outside, and the room that calls take. */
public final class RulesTest {
  private static final Due due = new Due("RulesTest");

  private static final String FACE = "feed(IIIII)I end(I)I text(II)I fault(I)I parish(II)I square(II)I law(II)I deed(III)I looks(III)I "
      + "degree(III)I counted(III)I party(IIIZ)I stop(III)I state(IIIII)I stand(IIIZZ)I together(IIIIZ)I turned(IIIZ)I spoon(IIIZ)I "
      + "prize(IIII)I rest(III)I way(III)I round(III)I sight(II)I fits(IIII)I wind(IIIZ)I clan(II)I puddle(IIZ)I drawn(IIIII)I alone(II)I "
      + "barred(IIZ)I known(III)I count(I)I image(I)Z again(I)Z";

  public static void main(String[] args) throws Exception {
    face();
    nested();
    words();
    room();
    due.end();
  }

  private static String code(Class<?> type) { return type == boolean.class ? "Z" : type == int.class ? "I" : type.getName(); }

  private static void face() {
    Set<String> got = new TreeSet<>();
    Set<String> hidden = new TreeSet<>();
    for (Method m : ReflectCensus.class.getDeclaredMethods()) {
      StringBuilder s = new StringBuilder(m.getName() + "(");
      for (Class<?> p : m.getParameterTypes()) s.append(code(p));
      s.append(")").append(code(m.getReturnType()));
      if (Modifier.isPublic(m.getModifiers())) got.add(s.toString());
      else {
        hidden.add(m.getName());
        due.is(m.getName() + " is private", Modifier.isPrivate(m.getModifiers()), true);
      }
    }
    Set<String> want = new TreeSet<>(Arrays.asList(FACE.split(" ")));
    if (!got.equals(want)) System.out.println("face: " + got);
    due.is("the face", got.equals(want), true);
    for (String f : want) due.is("no private " + f, hidden.contains(f.substring(0, f.indexOf('('))), false);
    for (Field f : ReflectCensus.class.getDeclaredFields()) {
      boolean none = f.getName().equals("NONE");
      due.is(f.getName(), none ? Modifier.isPublic(f.getModifiers()) : Modifier.isPrivate(f.getModifiers()), true);
      if (Modifier.isStatic(f.getModifiers())) due.is(f.getName() + " is final", Modifier.isFinal(f.getModifiers()), true);
    }
    Constructor<?>[] made = ReflectCensus.class.getDeclaredConstructors();
    due.is("one constructor", made.length, 1);
    due.is("without parameters", made[0].getParameterCount(), 0);
    due.is("public and final", ReflectCensus.class.getModifiers(), Modifier.PUBLIC | Modifier.FINAL);
  }

  private static void nested() {
    Class<?>[] inside = ReflectCensus.class.getDeclaredClasses();
    due.is("some twelve classes", inside.length + 1 <= 12, true);
    Set<String> face = new TreeSet<>();
    for (String f : FACE.split(" ")) face.add(f.substring(0, f.indexOf('(')));
    for (Class<?> c : inside) {
      due.is(c.getName() + " is static", Modifier.isStatic(c.getModifiers()), true);
      int fields = 0;
      List<Member> members = new ArrayList<>(Arrays.asList(c.getDeclaredMethods()));
      members.addAll(Arrays.asList(c.getDeclaredFields()));
      for (Member m : members) due.is(c.getName() + "." + m.getName() + " is not public", Modifier.isPublic(m.getModifiers()), false);
      for (Field f : c.getDeclaredFields()) {
        if (!Modifier.isStatic(f.getModifiers())) fields++;
        else due.is(f.getName() + " is final", Modifier.isFinal(f.getModifiers()), true);
      }
      due.is(c.getName() + " has some twenty fields", fields <= 20, true);
      for (Method m : c.getDeclaredMethods()) {
        due.is(c.getName() + "." + m.getName() + " bears no public name", face.contains(m.getName()), false);
        due.is(c.getName() + "." + m.getName() + " takes at most seven", m.getParameterCount() <= 7, true);
      }
    }
  }

  private static void words() throws Exception {
    String source = Files.readString(Path.of("src/main/java/ReflectCensus.java"));
    for (int k = 0; k < source.length(); k++) if (source.charAt(k) > 126) due.is("a sign at " + k, source.charAt(k), 126);
    String code = source.replaceAll("/\\*(?s:.*?)\\*/", " ").replaceAll("//[^\\n]*", " ");
    String[] never = {"\\bthrow\\b", "\\bthrows\\b", "\\btry\\b", "\\bcatch\\b", "\\bsynchronized\\b", "\\bassert\\b", "->", "::", "\\bdouble\\b", "\\bfloat\\b",
        "Exact\\b", "\\bprotected\\b", "\\bpackage\\b", "\\bObject\\b", "\\bvolatile\\b", "\\btransient\\b", "\\bnative\\b", "\\byield\\b", "\\bvar\\b",
        "\\bhashCode\\b", "\\btoString\\b", "static\\s*\\{", "System\\.(?!arraycopy)", "Thread", "Random", "@"};
    for (String n : never) due.is("the code has '" + n + "'", Pattern.compile(n).matcher(code).find(), false);
    Matcher imports = Pattern.compile("import ([^;]*);").matcher(code);
    while (imports.find()) due.is("import " + imports.group(1), imports.group(1).equals("java.util.Arrays"), true);
    longMethods(source);
  }

  /** A method is what begins at a line of one brace and ends at the closing one of its own depth. */
  private static void longMethods(String source) {
    String[] lines = source.split("\n");
    Pattern head = Pattern.compile("^( {4}| {8})(?!if|for|while|switch|else|return|private static final class)[A-Za-z].*\\) \\{$");
    for (int k = 0; k < lines.length; k++) {
      Matcher m = head.matcher(lines[k]);
      if (!m.matches()) continue;
      int end = k;
      while (end < lines.length && !lines[end].equals(m.group(1) + "}")) end++;
      due.is("lines of the method in line " + (k + 1), end - k <= 60, true);
    }
  }

  /** A run of 512 calls, the dearest ones, makes next to nothing. */
  private static void room() {
    com.sun.management.ThreadMXBean threads = (com.sun.management.ThreadMXBean) ManagementFactory.getThreadMXBean();
    long id = Thread.currentThread().getId();
    ReflectCensus c = Due.census("size 8 8;pond 1 1 0 9 0;pond 5 2 0 9 1;pond 2 5 0 9 0;mirror 6 6 0 9 1;eye 0 7 1 9 2;pond 4 4 0 9 1;pond 7 0 0 9 0;"
        + "person 0 0 0;person 7 7 1;person 3 3 2;person 3 0 3;person 0 3 4;person 6 3 5;person 3 6 6;person 1 4 7;", "cousins 9;twins;seats 20;", "count;".repeat(40), "slips 9;");
    warm(c);
    long before = threads.getThreadAllocatedBytes(id);
    warm(c);
    long made = threads.getThreadAllocatedBytes(id) - before;
    due.is("bytes made by dear calls: " + made, made < 20000, true);
  }

  private static void warm(ReflectCensus c) {
    for (int k = 0; k < 4; k++) {
      c.together(0, 0, k, 7 - k, true);
      c.spoon(0, 0, k, true);
      c.fits(0, 0, 0, k);
      c.round(0, 2, k);
      c.rest(0, 0, k);
      c.state(0, 0, 0, 40, 1);
      c.drawn(0, 0, k, 40, 1);
      c.stand(0, 0, k, true, true);
      c.barred(0, 0, true);
      c.turned(0, 0, k, true);
      c.image(0);
      c.again(0);
      c.feed(0x20202020, 0x20202020, 0x20202020, 0x20202020, 0x20202020);
      c.text(1, 0);
      c.text(2, 0);
    }
  }
}
