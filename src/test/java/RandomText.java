import java.util.Random;

/** Texts for random runs: most can be read, some have a fault put in. */
final class RandomText {
  private static final String[] ONES = {
      "kind", "since", "weight", "ground", "tame", "who", "0", "1", "2", "5", "07", "10", "9999", "weight", "ground"};
  private static final String[] BROKEN = {
      "worth", "follow", "or", "and", "not", "12345", "whose", "kin", "?", "\u00e9", "\t", ")", "(", ";", "<", "=", "-",
      "-", "not", "(", "A", "0", "kind", "*", "+"};

  private RandomText() { }

  static String make(Random random) {
    StringBuilder text = new StringBuilder();
    text.append("worth ");
    or(random, text, 4);
    text.append(random.nextBoolean() ? ";" : " ; \n");
    text.append("follow ");
    or(random, text, random.nextInt(3));
    text.append(random.nextInt(9) == 0 ? "; " : ";");
    for (int k = random.nextInt(3); k > 1; k--) {
      breakIt(random, text);
    }
    return text.length() > 160 ? text.substring(0, 160) : text.toString();
  }

  private static void breakIt(Random random, StringBuilder text) {
    int i = random.nextInt(text.length() + 1);
    switch (random.nextInt(3)) {
      case 0: text.insert(i, BROKEN[random.nextInt(BROKEN.length)]); break;
      case 1: text.delete(i, Math.min(text.length(), i + 1 + random.nextInt(3))); break;
      default: text.setLength(i); break;
    }
  }

  private static void or(Random random, StringBuilder text, int left) {
    not(random, text, left);
    while (left > 0 && random.nextInt(6) == 0) {
      text.append(random.nextBoolean() ? " or " : " and ");
      not(random, text, left - 1);
    }
  }

  private static void not(Random random, StringBuilder text, int left) {
    while (random.nextInt(6) == 0) {
      text.append("not ");
    }
    sum(random, text, left);
    if (random.nextInt(4) == 0) {
      text.append(random.nextBoolean() ? "<" : " = ");
      sum(random, text, left - 1);
    }
  }

  private static void sum(Random random, StringBuilder text, int left) {
    one(random, text, left);
    while (left > 0 && random.nextInt(5) < 2) {
      text.append("+-*".charAt(random.nextInt(3)));
      one(random, text, left - 1);
    }
  }

  private static void one(Random random, StringBuilder text, int left) {
    while (random.nextInt(8) == 0) {
      text.append("-");
    }
    if (left > 0 && random.nextInt(5) == 0) {
      text.append("(");
      or(random, text, left - 1);
      text.append(")");
    } else {
      text.append(ONES[random.nextInt(ONES.length)]);
    }
  }
}
