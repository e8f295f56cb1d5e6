import java.util.Random;

/** Random runs (always the same ones): every answer is held against Model's. */
public final class ModelTest {
  private static final int RUNS = 6000;
  /** An object answers 512 calls, and a step of a run takes fewer than 50. */
  private static final int CALLS = 512 - 50;
  private final Checks checks = new Checks("ModelTest");
  private final int[] asked = new int[33];
  private Random random;
  private WhoseHare x;
  private Model y;
  private int time;

  public static void main(String[] args) {
    new ModelTest().run();
  }

  private void run() {
    for (int run = 0; run < RUNS && checks.allRight(); run++) {
      random = new Random(run);
      x = new WhoseHare();
      y = new Model();
      time = 0;
      int start = checks.answers();
      begin(run);
      while (checks.answers() - start < CALLS && checks.allRight()) {
        call("run " + run + " call " + (checks.answers() - start) + " ", run);
      }
    }
    for (int k = 0; k < asked.length; k++) {
      checks.holds("call " + k + " was asked", k < 2 || asked[k] > RUNS / 10);
    }
    checks.end();
  }

  /** Most runs begin with grounds and beasts, so that moments have something to be of. */
  private void begin(int run) {
    int grounds = run % 7 == 0 ? 0 : 1 + random.nextInt(5);
    for (int g = 0; g < grounds; g++) {
      int p = random.nextInt(6) - 1;
      checks.due("run " + run + " ground", x.ground(p), y.ground(p));
    }
    for (int b = 0; b < grounds && b < 2; b++) {
      int p = random.nextBoolean() ? -1 : random.nextInt(4);
      int g = random.nextInt(grounds);
      checks.due("run " + run + " beast", x.beast(g, p), y.beast(g, p));
    }
  }

  private void call(String at, int run) {
    int k = random.nextInt(100);
    if (k < 30) {
      moment(at);
    } else if (k < 34) {
      text(at);
    } else if (k < 36) {
      sheetOfMoments(at);
    } else if (k < 38) {
      sheetOfWhose(at);
    } else {
      other(at);
    }
  }

  /** Mostly within the bounds, now and then outside. */
  private int pick(int from, int to) {
    int k = random.nextInt(25);
    if (k == 0) {
      return to + 1;
    }
    if (k == 1) {
      return from - 1;
    }
    if (k == 2 && random.nextInt(8) == 0) {
      return random.nextBoolean() ? Integer.MAX_VALUE : Integer.MIN_VALUE;
    }
    return to < from ? from : from + random.nextInt(to - from + 1);
  }

  private int pickBeast() {
    return pick(0, y.beasts.size() - 1);
  }

  private int pickGround() {
    return pick(0, y.owners.size() - 1);
  }

  private int pickPerson() {
    return random.nextInt(4) == 0 ? pick(0, 9) : random.nextInt(4);
  }

  private int pickCount() {
    return pick(0, y.moments.size());
  }

  private void moment(String at) {
    int t = random.nextInt(20) == 0 ? pick(0, 999) : time + random.nextInt(random.nextInt(5) == 0 ? 35 : 6);
    int w = pick(0, 9);
    int n = w == 5 ? pickGround() : w == 9 ? pickPerson() : pick(0, 9);
    int b = pickBeast();
    int p = pickPerson();
    int due = y.moment(t, w, b, p, n);
    asked[5]++;
    checks.due(at + "moment(" + t + ", " + w + ", " + b + ", " + p + ", " + n + ")", x.moment(t, w, b, p, n), due);
    time = due >= 0 ? t : time;
  }

  private void text(String at) {
    String text = RandomText.make(random);
    for (int i = 0; i < text.length(); i += 8) {
      int n = Math.min(8, text.length() - i);
      long w = random.nextLong();
      for (int k = 0; k < n; k++) {
        w = w << 8 | text.charAt(i + k);
      }
      checks.due(at + "feed", x.feed(w, n), y.feed(w, n));
    }
    asked[10]++;
    int due = y.text();
    checks.due(at + "text() of <" + text + ">", x.text(), due);
    if (due > 0 && random.nextBoolean()) {
      checks.due(at + "force", x.force(due), y.force(due));
    }
  }

  private void sheetOfMoments(String at) {
    int s = random.nextInt(4);
    int sort = random.nextInt(3);
    int n = 5 * random.nextInt(9) + random.nextInt(2);
    checks.due(at + "sheet", x.sheet(s, sort, n), y.sheet(s, sort, n));
    for (int i = 0; i < n; i++) {
      int[] most = {4, 10, 2, 4, 5};
      int v = random.nextInt(most[i % 5]) + (i % 5 == 0 ? time + i / 5 : 0);
      checks.due(at + "cell", x.cell(s, i, v), y.cell(s, i, v));
    }
    int from = random.nextInt(3) == 0 ? pick(0, 40) : 0;
    int many = random.nextInt(9);
    asked[32]++;
    checks.due(at + "tell", x.tell(s, sort, from, many), y.tell(s, sort, from, many));
  }

  private void sheetOfWhose(String at) {
    int s = random.nextInt(4);
    int b = pickBeast();
    int n = y.moments.size() + 1;
    int sort = random.nextInt(3);
    checks.due(at + "sheet", x.sheet(s, sort, n), y.sheet(s, sort, n));
    for (int i = 0; i < n; i++) {
      int v = y.whoseIs(Math.max(0, Math.min(b, y.beasts.size() - 1)), i) + (random.nextInt(40) == 0 ? 1 : 0);
      checks.due(at + "cell", x.cell(s, i, v), y.cell(s, i, v));
    }
    asked[19]++;
    checks.due(at + "judge", x.judge(b, s), y.judge(b, s));
  }

  private void other(String at) {
    int k = 2 + random.nextInt(31);
    asked[k]++;
    if (k <= 18) {
      firstHalf(at + "promise " + k + ": ", k);
    } else {
      secondHalf(at + "promise " + k + ": ", k);
    }
  }

  private void firstHalf(String at, int k) {
    int b = pickBeast();
    int g = pickGround();
    int p = random.nextBoolean() ? pick(-1, 9) : random.nextInt(4) - 1;
    int m = pick(0, y.moments.size() - 1);
    int n = pickCount();
    int i = pick(0, y.claims(y.moments.size()) - 1);
    long w = random.nextLong();
    switch (k) {
      case 2: checks.due(at + p, x.ground(p), y.ground(p)); break;
      case 3: checks.due(at + g + " " + p, x.owns(g, p), y.owns(g, p)); break;
      case 4: checks.due(at + g + " " + p, x.beast(g, p), y.beast(g, p)); break;
      case 6: if (random.nextBoolean()) checks.due(at, x.undo(), y.undo()); break;
      case 5:
      case 7: {
        int is = random.nextInt(4) == 0 ? pick(0, 1) : 1;
        checks.due(at + m + " " + is, x.unsure(m, is), y.unsure(m, is));
        break;
      }
      case 8: for (int v = -1; v < 7; v++) checks.due(at + m + " " + v, x.momentTold(m, v), y.momentTold(m, v)); break;
      case 9: {
        int many = pick(1, 8);
        checks.due(at + many, x.feed(w, many), y.feed(w, many));
        break;
      }
      case 10: checks.due(at, x.text(), y.text()); break;
      case 11: {
        int t = pick(0, y.texts.size() - 1);
        checks.due(at + t, x.force(t), y.force(t));
        break;
      }
      case 12: {
        int who = pickPerson();
        checks.due(at + who + " " + g + " " + b, x.follow(who, g, b), y.follow(who, g, b));
        break;
      }
      case 13: checks.due(at + n, x.claims(n), y.claims(n)); break;
      case 14:
        for (int v = -1; v < 9; v++) {
          checks.due(at + n + " " + i + " " + v, x.claimTold(n, i, v), y.claimTold(n, i, v));
        }
        break;
      case 15: checks.due(at + b + " " + n, x.whoseIs(b, n), y.whoseIs(b, n)); break;
      case 16: checks.due(at + b + " " + n, x.why(b, n), y.why(b, n)); break;
      case 17:
        for (int v = -1; v < 4; v++) checks.due(at + b + " " + n + " " + v, x.where(b, n, v), y.where(b, n, v));
        break;
      default: checks.due(at + b, x.nobody(b), y.nobody(b)); break;
    }
  }

  private void secondHalf(String at, int k) {
    int b = pickBeast();
    int n = pickCount();
    int p = pickPerson();
    int s = pick(0, 3);
    int other = pick(0, 3);
    int sort = pick(-1, 2);
    int i = pick(0, 12);
    int j = pick(0, 12);
    int v = random.nextInt();
    switch (k) {
      case 19: checks.due(at + b + " " + s, x.judge(b, s), y.judge(b, s)); break;
      case 20: checks.due(at + b, x.may(b), y.may(b)); break;
      case 21: checks.due(at + b, x.hangs(b), y.hangs(b)); break;
      case 22: checks.due(at + b + " " + p, x.least(b, p), y.least(b, p)); break;
      case 23:
        for (int part = -1; part < 3; part++) {
          checks.due(at + b + " " + n + " " + p + " " + part, x.share(b, n, p, part), y.share(b, n, p, part));
        }
        break;
      case 24: checks.due(at + b, x.quarrel(b), y.quarrel(b)); break;
      case 25: checks.due(at + b, x.custom(b), y.custom(b)); break;
      case 26: for (int w = -1; w < 8; w++) checks.due(at + w, x.count(w), y.count(w)); break;
      case 27: checks.due(at, x.image(), y.image()); break;
      case 28: if (random.nextBoolean()) checks.due(at, x.back(), y.back()); break;
      case 29: {
        int many = random.nextBoolean() ? pick(0, 40) : pick(6, 12);
        checks.due(at + s + " " + sort + " " + many, x.sheet(s, sort, many), y.sheet(s, sort, many));
        break;
      }
      case 30: checks.due(at + s + " " + i + " " + v, x.cell(s, i, v), y.cell(s, i, v)); break;
      case 31: {
        int many = pick(0, 6);
        checks.due(at + s + " " + i + " " + other + " " + j + " " + many,
            x.copy(s, i, other, j, many), y.copy(s, i, other, j, many));
        break;
      }
      default: {
        int many = pick(0, 8);
        checks.due(at + s + " " + sort + " " + i + " " + many, x.tell(s, sort, i, many), y.tell(s, sort, i, many));
        for (int kind = -1; kind < 8; kind++) {
          int place = random.nextBoolean() ? pick(0, 49) : 6 + random.nextInt(8);
          checks.due(at + "taken " + place + " " + kind, x.taken(place, kind), y.taken(place, kind));
        }
        break;
      }
    }
  }
}
