import java.nio.charset.StandardCharsets;

/** What the tests share: due answers are counted here, and the test ends with 1 if one was not given. */
final class Checks {
  private final String name;
  private int right = 0;
  private int wrong = 0;

  Checks(String name) {
    this.name = name;
  }

  void due(String what, long got, long want) {
    if (got == want) {
      right++;
      return;
    }
    wrong++;
    if (wrong <= 50) {
      System.out.println(name + ": " + what + " answered " + got + ", due is " + want);
    }
  }

  void holds(String what, boolean is) {
    due(what, is ? 1 : 0, 1);
  }

  int answers() {
    return right + wrong;
  }

  boolean allRight() {
    return wrong == 0;
  }

  void end() {
    System.out.println(name + ": " + right + " answers as due, " + wrong + " not");
    if (wrong != 0 || right == 0) {
      System.exit(1);
    }
  }

  /** Feeds a text's bytes (signs 0 to 255), as many a call as can be. */
  static int feedAll(WhoseHare x, String text) {
    byte[] bytes = text.getBytes(StandardCharsets.ISO_8859_1);
    int answer = 0;
    for (int i = 0; i < bytes.length; i += 8) {
      int n = Math.min(8, bytes.length - i);
      long w = 0;
      for (int k = 0; k < n; k++) {
        w = w << 8 | (bytes[i + k] & 255);
      }
      answer = x.feed(w, n);
    }
    return answer;
  }

  static int read(WhoseHare x, String text) {
    feedAll(x, text);
    return x.text();
  }
}
