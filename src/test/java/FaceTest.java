import java.io.IOException;
import java.lang.reflect.Constructor;
import java.lang.reflect.Field;
import java.lang.reflect.Method;
import java.lang.reflect.Modifier;
import java.nio.file.Files;
import java.nio.file.Path;
import java.util.Arrays;
import java.util.HashSet;
import java.util.List;
import java.util.Set;
import java.util.TreeSet;
import java.util.regex.Matcher;
import java.util.regex.Pattern;

/** The public face, and those rules of LANGUAGE.md that can be looked up: in the class, and in its source (args[0]). */
public final class FaceTest {
  private static final Checks CHECKS = new Checks("FaceTest");
  private static final String[] FACE = {
      "int back()", "int beast(int,int)", "int cell(int,int,int)", "int claimTold(int,int,int)", "int claims(int)",
      "int copy(int,int,int,int,int)", "int count(int)", "int custom(int)", "int feed(long,int)",
      "int follow(int,int,int)", "int force(int)", "int ground(int)", "int hangs(int)", "int image()",
      "int judge(int,int)", "int least(int,int)", "int may(int)", "int moment(int,int,int,int,int)",
      "int momentTold(int,int)", "int nobody(int)", "int owns(int,int)", "int quarrel(int)",
      "int sheet(int,int,int)", "int taken(int,int)", "int tell(int,int,int,int)", "int text()", "int undo()",
      "int unsure(int,int)", "int where(int,int,int)", "int whoseIs(int,int)", "int why(int,int)",
      "long share(int,int,int,int)"};
  private static final List<String> FORBIDDEN = List.of("throw", "throws", "try", "catch", "finally", "synchronized",
      "assert", "goto", "native", "volatile", "transient", "protected", "package", "equals", "hashCode", "toString",
      "Object", "Exception", "Thread", "System.out", "Random", "nanoTime", "currentTimeMillis", "strictfp", "yield");
  private static final List<String> LIBRARY = List.of("Arrays.copyOfRange", "Arrays.fill", "System.arraycopy",
      "Integer.bitCount", "Math.max", "Math.min", "Sheet.NO_SORT", "WORDS.length", "WORDS.charAt");

  private FaceTest() { }

  public static void main(String[] args) throws IOException {
    constants();
    face();
    classes();
    source(Files.readString(Path.of(args[0])));
    CHECKS.end();
  }

  private static void constants() {
    CHECKS.due("NONE", WhoseHare.NONE, -1);
    CHECKS.due("BAD", WhoseHare.BAD, -2);
    CHECKS.due("STATE", WhoseHare.STATE, -3);
    CHECKS.due("FULL", WhoseHare.FULL, -4);
    CHECKS.due("NO", WhoseHare.NO, -(1L << 62));
  }

  private static void face() {
    Set<String> found = new TreeSet<>();
    for (Method m : WhoseHare.class.getDeclaredMethods()) {
      if (!Modifier.isPrivate(m.getModifiers())) {
        String types = Arrays.toString(m.getParameterTypes()).replaceAll("[\\[\\] ]", "");
        found.add(m.getReturnType() + " " + m.getName() + "(" + types + ")");
        CHECKS.holds(m.getName() + " is public", Modifier.isPublic(m.getModifiers()));
      }
    }
    CHECKS.holds("methods: " + found, found.equals(new TreeSet<>(Arrays.asList(FACE))));
    Set<String> fields = new TreeSet<>();
    for (Field f : WhoseHare.class.getDeclaredFields()) {
      if (!Modifier.isPrivate(f.getModifiers())) {
        fields.add(f.getName());
      }
    }
    CHECKS.holds("fields: " + fields, fields.equals(Set.of("NONE", "BAD", "STATE", "FULL", "NO")));
    Constructor<?>[] makers = WhoseHare.class.getDeclaredConstructors();
    CHECKS.due("constructors", makers.length, 1);
    CHECKS.due("what it takes", makers[0].getParameterCount(), 0);
    CHECKS.holds("it is public", Modifier.isPublic(makers[0].getModifiers()));
    CHECKS.holds("the class is final", Modifier.isFinal(WhoseHare.class.getModifiers()));
  }

  private static void classes() {
    Set<String> names = new HashSet<>();
    for (String line : FACE) {
      names.add(line.replaceAll(".* |\\(.*", ""));
    }
    Class<?>[] inside = WhoseHare.class.getDeclaredClasses();
    CHECKS.holds("at most twelve classes", inside.length < 12);
    for (Class<?> c : inside) {
      CHECKS.holds(c + " is static", Modifier.isStatic(c.getModifiers()));
      CHECKS.holds(c + " isn't public", !Modifier.isPublic(c.getModifiers()));
      members(c, names);
    }
    members(WhoseHare.class, Set.of());
  }

  private static void members(Class<?> c, Set<String> faceNames) {
    int fields = 0;
    for (Field f : c.getDeclaredFields()) {
      fields += Modifier.isStatic(f.getModifiers()) ? 0 : 1;
      CHECKS.holds(f + " is final, if static", !Modifier.isStatic(f.getModifiers()) || Modifier.isFinal(f.getModifiers()));
    }
    CHECKS.holds(c + " has some twenty fields", fields <= 20);
    for (Method m : c.getDeclaredMethods()) {
      CHECKS.holds(m + " takes at most seven", m.getParameterCount() <= 7);
      CHECKS.holds(m + " has a name of its own", !faceNames.contains(m.getName()));
      CHECKS.holds(m + " is written, not made", !m.isSynthetic());
    }
  }

  private static void source(String text) {
    String code = text.replaceAll("/\\*(?s:.*?)\\*/", "").replaceAll("//.*", "");
    for (String word : FORBIDDEN) {
      CHECKS.holds("no " + word, !Pattern.compile("\\b" + Pattern.quote(word) + "\\b").matcher(code).find());
    }
    CHECKS.holds("no lambda", !code.contains("->"));
    CHECKS.holds("no method reference", !code.contains("::"));
    CHECKS.holds("no static block", !Pattern.compile("static\\s*\\{").matcher(code).find());
    Matcher imported = Pattern.compile("import ([^;]*);").matcher(code);
    while (imported.find()) {
      CHECKS.holds("import " + imported.group(1), imported.group(1).equals("java.util.Arrays"));
    }
    Matcher called = Pattern.compile("\\b([A-Z]\\w*)\\.(\\w+)").matcher(code);
    while (called.find()) {
      CHECKS.holds("the library's " + called.group(), LIBRARY.contains(called.group()));
    }
    CHECKS.holds("signs 1 to 127", code.chars().allMatch(c -> c > 0 && c < 128));
    longMethods(text.split("\n"));
  }

  private static void longMethods(String[] lines) {
    int start = -1;
    for (int i = 0; i < lines.length; i++) {
      if (lines[i].matches("( {2}| {4})[a-zA-Z].*\\) \\{")) {
        start = i;
      } else if (start >= 0 && lines[i].matches("( {2}| {4})\\}")) {
        CHECKS.holds("the method at line " + (start + 1) + " is short", i - start < 60);
        start = -1;
      }
    }
  }
}
