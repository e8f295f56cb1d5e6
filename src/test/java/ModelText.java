import java.util.ArrayList;
import java.util.List;
import java.util.Map;
import java.util.Set;
import java.util.function.ToIntFunction;
import java.util.regex.Matcher;
import java.util.regex.Pattern;

/** Reads a text for Model: tokens first, by a pattern, then a tree of functions. */
final class ModelText {
  private static final Pattern TOKEN = Pattern.compile("[ \\n]*([a-z]+|[0-9]+|[-();+*<=]|[\\x00-\\xff]|$)");
  private static final Set<String> NAMES = Set.of("kind", "since", "weight", "ground", "tame", "who");

  private static final class Fault extends RuntimeException {
    private static final long serialVersionUID = 1;
  }

  private interface Worth extends ToIntFunction<Map<String, Integer>> { }

  private final List<String> tokens = new ArrayList<>();
  private final List<Integer> places = new ArrayList<>();
  private int i = 0;

  ModelText(String text) {
    Matcher m = TOKEN.matcher(text);
    boolean more = true;
    while (more && m.lookingAt()) {
      tokens.add(m.group(1));
      places.add(m.start(1));
      more = !m.group(1).isEmpty();
      m.region(m.end(), text.length());
    }
  }

  /** A Model.Text, or the place of the fault. */
  Object read() {
    try {
      take("worth");
      Worth worth = or(0);
      take(";");
      take("follow");
      Worth follow = or(0);
      take(";");
      take("");
      return new Model.Text(worth, follow);
    } catch (Fault fault) {
      return places.get(i);
    }
  }

  private String now() {
    return tokens.get(i);
  }

  private void take(String token) {
    if (!now().equals(token)) {
      throw new Fault();
    }
    i += token.isEmpty() ? 0 : 1;
  }

  private int deeper(int open) {
    if (open == 5) {
      throw new Fault();
    }
    i++;
    return open + 1;
  }

  private Worth or(int open) {
    Worth a = and(open);
    while (now().equals("or")) {
      i++;
      Worth left = a;
      Worth right = and(open);
      a = x -> left.applyAsInt(x) != 0 | right.applyAsInt(x) != 0 ? 1 : 0;
    }
    return a;
  }

  private Worth and(int open) {
    Worth a = not(open);
    while (now().equals("and")) {
      i++;
      Worth left = a;
      Worth right = not(open);
      a = x -> left.applyAsInt(x) != 0 & right.applyAsInt(x) != 0 ? 1 : 0;
    }
    return a;
  }

  private Worth not(int open) {
    if (now().equals("not")) {
      Worth a = not(deeper(open));
      return x -> a.applyAsInt(x) == 0 ? 1 : 0;
    }
    Worth left = sum(open);
    if (now().equals("<") || now().equals("=")) {
      boolean less = tokens.get(i++).equals("<");
      Worth right = sum(open);
      return x -> (less ? left.applyAsInt(x) < right.applyAsInt(x) : left.applyAsInt(x) == right.applyAsInt(x)) ? 1 : 0;
    }
    return left;
  }

  private Worth sum(int open) {
    Worth a = term(open);
    while (now().equals("+") || now().equals("-")) {
      int sign = tokens.get(i++).equals("+") ? 1 : -1;
      Worth left = a;
      Worth right = term(open);
      a = x -> left.applyAsInt(x) + sign * right.applyAsInt(x);
    }
    return a;
  }

  private Worth term(int open) {
    Worth a = one(open);
    while (now().equals("*")) {
      i++;
      Worth left = a;
      Worth right = one(open);
      a = x -> left.applyAsInt(x) * right.applyAsInt(x);
    }
    return a;
  }

  private Worth one(int open) {
    String token = now();
    if (token.equals("-")) {
      Worth a = one(deeper(open));
      return x -> -a.applyAsInt(x);
    }
    if (token.equals("(")) {
      Worth a = or(deeper(open));
      take(")");
      return a;
    }
    if (token.matches("[0-9]{1,4}")) {
      i++;
      int number = Integer.parseInt(token);
      return x -> number;
    }
    if (!NAMES.contains(token)) {
      throw new Fault();
    }
    i++;
    return x -> x.get(token);
  }
}
