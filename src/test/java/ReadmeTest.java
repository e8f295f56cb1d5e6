import java.io.IOException;
import java.lang.reflect.Method;
import java.nio.file.Files;
import java.nio.file.Path;
import java.util.HashMap;
import java.util.Map;
import java.util.regex.Matcher;
import java.util.regex.Pattern;

/** The calls that README.md (of the project's root, where the tests run) tells, each with its answer. */
public final class ReadmeTest {
  private static final Checks CHECKS = new Checks("ReadmeTest");
  private static final Pattern CALL =
      Pattern.compile("(?:int (\\w+) = )?x\\.(\\w+)\\((.*)\\); +// (-?\\d+): .*");
  private static final int CALLS_TOLD = 40;
  private static final Map<String, Long> NAMED = new HashMap<>();
  private static final WhoseHare X = new WhoseHare();

  private ReadmeTest() { }

  public static void main(String[] args) throws IOException, ReflectiveOperationException {
    boolean code = false;
    for (String line : Files.readAllLines(Path.of("README.md"))) {
      if (line.startsWith("```")) {
        code = line.equals("```java");
      } else if (code && !line.equals("WhoseHare x = new WhoseHare();")) {
        told(line);
      }
    }
    CHECKS.holds("README.md tells " + CHECKS.answers() + " calls", CHECKS.answers() >= CALLS_TOLD);
    CHECKS.end();
  }

  private static void told(String line) throws ReflectiveOperationException {
    Matcher call = CALL.matcher(line);
    if (!call.matches()) {
      CHECKS.holds("a call with its answer: " + line, false);
      return;
    }
    long answer = answer(call.group(2), call.group(3).isEmpty() ? new String[0] : call.group(3).split(", "));
    CHECKS.due(line, answer, Long.parseLong(call.group(4)));
    if (call.group(1) != null) {
      NAMED.put(call.group(1), answer);
    }
  }

  private static long answer(String name, String[] told) throws ReflectiveOperationException {
    for (Method method : WhoseHare.class.getMethods()) {
      if (method.getName().equals(name) && method.getParameterCount() == told.length) {
        Object[] numbers = new Object[told.length];
        for (int k = 0; k < told.length; k++) {
          boolean isLong = method.getParameterTypes()[k] == long.class;
          numbers[k] = isLong ? (Object) number(told[k]) : (Object) (int) number(told[k]);
        }
        return ((Number) method.invoke(X, numbers)).longValue();
      }
    }
    CHECKS.holds("there is a call " + name, false);
    return 0;
  }

  private static long number(String told) {
    return NAMED.containsKey(told) ? NAMED.get(told) : Long.decode(told.replace("L", ""));
  }
}
