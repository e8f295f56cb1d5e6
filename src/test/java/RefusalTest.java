/**
 * Each refusal of each call: the first number on each side that is not taken, and the farthest; which of several
 * refusals is told first; that a refused call changes nothing.
 */
public final class RefusalTest {
  private static final Checks CHECKS = new Checks("RefusalTest");
  private static final Recipes.Recipe EMPTY = Recipes.EMPTY, SOME = Recipes.SOME, MOST = Recipes.MOST;
  private static final int LOW = Integer.MIN_VALUE, HIGH = Integer.MAX_VALUE;
  private static final int NONE = -1, BAD = -2, STATE = -3, FULL = -4;
  private static final int NO_SUCH = -5, NO_WHAT = -7, MISSING = -11, OUTSIDE = -12, UNLIKE = -13, BELOW = -14;
  private static final long NO = -4611686018427387904L;

  private RefusalTest() { }

  public static void main(String[] args) {
    grounds();
    beasts();
    momentsOneWrong();
    momentsMoreWrong();
    undoing();
    unsureOnes();
    told();
    tapes();
    faults();
    laws();
    claims();
    whose();
    answersOfMinusOne();
    judges();
    unseen();
    shares();
    counts();
    sheets();
    cells();
    copies();
    copiesMoreWrong();
    tells();
    tellsMoreWrong();
    takens();
    CHECKS.end();
  }

  private static void refused(String what, Recipes.Recipe recipe, long due, Recipes.Call call) {
    Recipes.unchanged(CHECKS, what, recipe, call, due);
  }

  /** The first number on each side of least .. greatest that is not taken, and the farthest. */
  private static int[] beside(int least, int greatest) {
    return new int[] {least - 1, greatest + 1, LOW, HIGH};
  }

  private static void grounds() {
    for (int p : beside(-1, 9)) {
      refused("2: ground(" + p + "): BAD", EMPTY, BAD, x -> x.ground(p));
      refused("2: ground(" + p + "): BAD", SOME, BAD, x -> x.ground(p));
      refused("2: ground(" + p + ") and FULL: BAD first", MOST, BAD, x -> x.ground(p));
      refused("3: owns(0, " + p + "): -7: who", SOME, NO_WHAT, x -> x.owns(0, p));
      refused("3: owns(3, " + p + "): -5 first", SOME, NO_SUCH, x -> x.owns(3, p));
    }
    for (int p : new int[] {-1, 0, 9}) {
      refused("2: a ninth ground(" + p + "): FULL", MOST, FULL, x -> x.ground(p));
      refused("3: owns(0, " + p + ") of no GROUNDS: -5", EMPTY, NO_SUCH, x -> x.owns(0, p));
    }
    for (int g : beside(0, 2)) {
      refused("3: owns(" + g + ", 1) of three: -5", SOME, NO_SUCH, x -> x.owns(g, 1));
    }
    for (int g : beside(0, 7)) {
      refused("3: owns(" + g + ", 1) of eight: -5", MOST, NO_SUCH, x -> x.owns(g, 1));
    }
  }

  private static void beasts() {
    refused("4: beast(0, 0) of no GROUNDS: NONE", EMPTY, NONE, x -> x.beast(0, 0));
    for (int g : beside(0, 2)) {
      refused("4: beast(" + g + ", 0) of three GROUNDS: NONE", SOME, NONE, x -> x.beast(g, 0));
      refused("4: beast(" + g + ", 10): NONE ahead of BAD", SOME, NONE, x -> x.beast(g, 10));
    }
    for (int g : beside(0, 7)) {
      refused("4: beast(" + g + ", 0): NONE ahead of FULL", MOST, NONE, x -> x.beast(g, 0));
      refused("4: beast(" + g + ", -2): NONE ahead of all", MOST, NONE, x -> x.beast(g, -2));
    }
    for (int p : beside(-1, 9)) {
      refused("4: beast(0, " + p + "): BAD", SOME, BAD, x -> x.beast(0, p));
      refused("4: beast(7, " + p + "): BAD ahead of FULL", MOST, BAD, x -> x.beast(7, p));
    }
    for (int p : new int[] {-1, 0, 9}) {
      refused("4: a seventh beast(7, " + p + "): FULL", MOST, FULL, x -> x.beast(7, p));
    }
  }

  private static void momentsOneWrong() {
    refused("5: no BEASTS: NONE", EMPTY, NONE, x -> x.moment(0, 0, 0, 0, 0));
    for (int b : beside(0, 1)) {
      refused("5: BEAST " + b + " of two: NONE", SOME, NONE, x -> x.moment(12, 0, b, 0, 0));
    }
    for (int t : new int[] {11, 0, -1, 1000, LOW, HIGH}) {
      refused("5: TIME " + t + " behind 12: BAD", SOME, BAD, x -> x.moment(t, 0, 0, 0, 0));
    }
    for (int w : beside(0, 9)) {
      refused("5: WHAT " + w + ": BAD", SOME, BAD, x -> x.moment(12, w, 0, 0, 0));
    }
    for (int p : beside(0, 9)) {
      refused("5: BY " + p + ": BAD", SOME, BAD, x -> x.moment(12, 0, 0, p, 0));
    }
    for (int w = 0; w < 10; w++) {
      int what = w;
      for (int n : beside(0, w == 5 ? 2 : 9)) {
        refused("5: NUMBER " + n + " of " + w + ": BAD", SOME, BAD, x -> x.moment(12, what, 0, 0, n));
      }
    }
    refused("5: a 33rd: FULL", MOST, FULL, x -> x.moment(41, 0, 0, 0, 0));
    refused("5: a 33rd at 999: FULL", MOST, FULL, x -> x.moment(999, 5, 5, 9, 7));
  }

  private static void momentsMoreWrong() {
    int[][] bad = {{11, 0, 0, 0}, {1000, 0, 0, 0}, {99, 10, 0, 0}, {99, -1, 0, 0}, {99, 0, 10, 0}, {99, 0, -1, 0},
        {99, 0, 0, 10}, {99, 0, 0, -1}, {99, 5, 0, 8}};
    for (int[] m : bad) {
      String what = "moment(" + m[0] + ", " + m[1] + ", .., " + m[2] + ", " + m[3] + ")";
      refused("5: " + what + ", no such BEAST: NONE ahead of BAD", SOME, NONE, x -> x.moment(m[0], m[1], 2, m[2], m[3]));
      refused("5: " + what + ": BAD ahead of FULL", MOST, BAD, x -> x.moment(m[0], m[1], 5, m[2], m[3]));
      refused("5: " + what + ": NONE ahead of all", MOST, NONE, x -> x.moment(m[0], m[1], 6, m[2], m[3]));
    }
    refused("5: no such BEAST: NONE ahead of FULL", MOST, NONE, x -> x.moment(99, 0, -1, 0, 0));
  }

  private static void undoing() {
    refused("6: undo() of no MOMENTS: STATE", EMPTY, STATE, x -> x.undo());
    refused("28: back() to no IMAGE: STATE", EMPTY, STATE, x -> x.back());
    refused("28: back() to no IMAGE: STATE", x -> {
      x.ground(1);
      x.beast(0, 2);
      x.moment(3, 0, 0, 4, 0);
    }, STATE, x -> x.back());
  }

  private static void unsureOnes() {
    refused("7: unsure(0, 1) of no MOMENTS: NONE", EMPTY, NONE, x -> x.unsure(0, 1));
    for (int m : beside(0, 7)) {
      refused("7: unsure(" + m + ", 1) of eight: NONE", SOME, NONE, x -> x.unsure(m, 1));
      refused("7: unsure(" + m + ", 0) of eight: NONE", SOME, NONE, x -> x.unsure(m, 0));
      refused("7: unsure(" + m + ", 2): NONE ahead of BAD", SOME, NONE, x -> x.unsure(m, 2));
    }
    for (int m : beside(0, 31)) {
      refused("7: unsure(" + m + ", 1): NONE ahead of FULL", MOST, NONE, x -> x.unsure(m, 1));
      refused("7: unsure(" + m + ", -1): NONE ahead of all", MOST, NONE, x -> x.unsure(m, -1));
    }
    for (int is : beside(0, 1)) {
      refused("7: unsure(3, " + is + "): BAD of one that is", SOME, BAD, x -> x.unsure(3, is));
      refused("7: unsure(4, " + is + "): BAD of one that is not", SOME, BAD, x -> x.unsure(4, is));
      refused("7: unsure(31, " + is + "): BAD ahead of FULL", MOST, BAD, x -> x.unsure(31, is));
    }
    refused("7: a seventh: FULL", MOST, FULL, x -> x.unsure(31, 1));
    refused("7: a seventh: FULL", MOST, FULL, x -> x.unsure(1, 1));
  }

  private static void told() {
    refused("8: momentTold(0, 0) of no MOMENTS: -5", EMPTY, NO_SUCH, x -> x.momentTold(0, 0));
    for (int m : beside(0, 7)) {
      refused("8: momentTold(" + m + ", 0) of eight: -5", SOME, NO_SUCH, x -> x.momentTold(m, 0));
      refused("8: momentTold(" + m + ", 6): -5 first", SOME, NO_SUCH, x -> x.momentTold(m, 6));
    }
    for (int m : beside(0, 31)) {
      refused("8: momentTold(" + m + ", 5) of 32: -5", MOST, NO_SUCH, x -> x.momentTold(m, 5));
    }
    for (int w : beside(0, 5)) {
      refused("8: momentTold(0, " + w + "): -7", SOME, NO_WHAT, x -> x.momentTold(0, w));
    }
  }

  private static void tapes() {
    for (int n : beside(1, 8)) {
      refused("9: feed(7, " + n + "): BAD", EMPTY, BAD, x -> x.feed(7, n));
      refused("9: feed(7, " + n + "): BAD", SOME, BAD, x -> x.feed(7, n));
      refused("9: feed(7, " + n + "): BAD ahead of FULL", MOST, BAD, x -> x.feed(7, n));
    }
    for (int n = 1; n < 9; n++) {
      int many = n;
      refused("9: feed(7, " + n + ") behind 160: FULL", MOST, FULL, x -> x.feed(7, many));
      refused("9: feed(7, " + n + ") behind " + (161 - n) + ": FULL", x -> {
        for (int k = 0; k < 161 - many; k++) {
          x.feed(k == 0 ? ' ' : "worth 3;follow 1".charAt(Math.min(k - 1, 15)), 1);
        }
      }, FULL, x -> x.feed(-1L, many));
    }
    refused("10: text() behind six: FULL, ahead of the FAULT; the TAPE stays", MOST, FULL, x -> x.text());
  }

  /** A FAULT empties the TAPE, and that is all: behind a TAPE that was empty nothing is another. */
  private static void faults() {
    Recipes.Recipe emptyTape = x -> {
      Recipes.SOME.make(x);
      x.feed(';', 1);
      CHECKS.due("10: a TEXT", x.text(), 3);
    };
    String[] texts = {"", "worth ?", "worth 1;follow 1", "worth 12345;follow 1;", "worth ((((((1))))));follow 1;"};
    int[] places = {0, 6, 16, 6, 11};
    for (int k = 0; k < texts.length; k++) {
      String text = texts[k];
      refused("10: FAULT of <" + text + ">", emptyTape, -100 - places[k], x -> Checks.read(x, text));
    }
  }

  /** A -1 that is an answer comes behind the refusal of a number. */
  private static void answersOfMinusOne() {
    Recipes.Recipe nobodys = x -> {
      x.ground(-1);
      x.beast(0, -1);
      x.sheet(0, 0, 1);
      x.cell(0, 0, -1);
    };
    refused("3: it was nobody's, but who: -7", nobodys, NO_WHAT, x -> x.owns(0, 10));
    refused("15: nobody's", nobodys, -1, x -> x.whoseIs(0, 0));
    refused("15: nobody's, but n: -7", nobodys, NO_WHAT, x -> x.whoseIs(0, 1));
    refused("15: nobody's, but n: -7", nobodys, NO_WHAT, x -> x.whoseIs(0, -1));
    refused("16: by none", nobodys, -1, x -> x.why(0, 0));
    refused("16: by none, but n: -7", nobodys, NO_WHAT, x -> x.why(0, 1));
    refused("16: by none, but BEAST: -5", nobodys, NO_SUCH, x -> x.why(1, 0));
    refused("19: all are right", nobodys, -1, x -> x.judge(0, 0));
    refused("19: all are right, but BEAST: -5", nobodys, NO_SUCH, x -> x.judge(1, 0));
    refused("19: all are right, but SHEET: BAD", nobodys, BAD, x -> x.judge(0, 4));
    refused("22: in no way", nobodys, -1, x -> x.least(0, 0));
    refused("22: in no way, but one: -5", nobodys, NO_SUCH, x -> x.least(0, 10));
    refused("22: in no way, but BEAST: -5", nobodys, NO_SUCH, x -> x.least(1, 0));
  }

  private static void laws() {
    for (int t : beside(0, 0)) {
      refused("11: force(" + t + ") of one TEXT: BAD", EMPTY, BAD, x -> x.force(t));
    }
    for (int t : beside(0, 2)) {
      refused("11: force(" + t + ") of three: BAD", SOME, BAD, x -> x.force(t));
    }
    for (int t : beside(0, 5)) {
      refused("11: force(" + t + ") of six: BAD", MOST, BAD, x -> x.force(t));
    }
    refused("12: follow(0, 0, 0) of nothing: BAD", EMPTY, BAD, x -> x.follow(0, 0, 0));
    for (int p : beside(0, 9)) {
      refused("12: follow(" + p + ", 0, 0): BAD", SOME, BAD, x -> x.follow(p, 0, 0));
    }
    for (int g : beside(0, 2)) {
      refused("12: follow(0, " + g + ", 0): BAD", SOME, BAD, x -> x.follow(0, g, 0));
    }
    for (int b : beside(0, 1)) {
      refused("12: follow(0, 0, " + b + "): BAD", SOME, BAD, x -> x.follow(0, 0, b));
    }
  }

  private static void claims() {
    for (int n : beside(0, 0)) {
      refused("13: claims(" + n + ") of no MOMENTS: BAD", EMPTY, BAD, x -> x.claims(n));
      refused("14: claimTold(" + n + ", 0, 0) of no MOMENTS: BAD", EMPTY, BAD, x -> x.claimTold(n, 0, 0));
    }
    refused("14: claimTold(0, 0, 0) of no CLAIMS: -5", EMPTY, NO_SUCH, x -> x.claimTold(0, 0, 0));
    for (int n : beside(0, 8)) {
      refused("13: claims(" + n + ") of eight: BAD", SOME, BAD, x -> x.claims(n));
      refused("14: claimTold(" + n + ", 0, 0): BAD", SOME, BAD, x -> x.claimTold(n, 0, 0));
      refused("14: claimTold(" + n + ", 99, 0): BAD ahead of -5", SOME, BAD, x -> x.claimTold(n, 99, 0));
      refused("14: claimTold(" + n + ", 0, 8): BAD ahead of -7", SOME, BAD, x -> x.claimTold(n, 0, 8));
    }
    int many = behind(SOME).claims(8);
    for (int i : beside(0, many - 1)) {
      refused("14: claimTold(8, " + i + ", 0): -5", SOME, NO_SUCH, x -> x.claimTold(8, i, 0));
      refused("14: claimTold(8, " + i + ", 8): -5 ahead of -7", SOME, NO_SUCH, x -> x.claimTold(8, i, 8));
    }
    refused("14: claim 2 isn't yet behind 0: -5", SOME, NO_SUCH, x -> x.claimTold(0, 2, 0));
    for (int w : beside(0, 7)) {
      refused("14: claimTold(8, 0, " + w + "): -7", SOME, NO_WHAT, x -> x.claimTold(8, 0, w));
    }
    for (int n : beside(0, 32)) {
      refused("13: claims(" + n + ") of 32: BAD", MOST, BAD, x -> x.claims(n));
    }
  }

  private static WhoseHare behind(Recipes.Recipe recipe) {
    WhoseHare x = new WhoseHare();
    recipe.make(x);
    return x;
  }

  private static void whose() {
    for (int b : beside(0, 1)) {
      refused("15: whoseIs(" + b + ", 0): -5", SOME, NO_SUCH, x -> x.whoseIs(b, 0));
      refused("15: whoseIs(" + b + ", 9): -5 ahead of -7", SOME, NO_SUCH, x -> x.whoseIs(b, 9));
      refused("16: why(" + b + ", 0): -5", SOME, NO_SUCH, x -> x.why(b, 0));
      refused("16: why(" + b + ", 9): -5 ahead of -7", SOME, NO_SUCH, x -> x.why(b, 9));
      refused("17: where(" + b + ", 0, 0): -5", SOME, NO_SUCH, x -> x.where(b, 0, 0));
      refused("17: where(" + b + ", 9, 0): -5 ahead of -7", SOME, NO_SUCH, x -> x.where(b, 9, 0));
      refused("17: where(" + b + ", 0, 3): -5 ahead of -7", SOME, NO_SUCH, x -> x.where(b, 0, 3));
      refused("18: nobody(" + b + "): -5", SOME, NO_SUCH, x -> x.nobody(b));
    }
    for (int n : beside(0, 8)) {
      refused("15: whoseIs(0, " + n + "): -7", SOME, NO_WHAT, x -> x.whoseIs(0, n));
      refused("16: why(0, " + n + "): -7", SOME, NO_WHAT, x -> x.why(0, n));
      refused("17: where(0, " + n + ", 0): -7", SOME, NO_WHAT, x -> x.where(0, n, 0));
    }
    for (int w : beside(0, 2)) {
      refused("17: where(0, 0, " + w + "): -7", SOME, NO_WHAT, x -> x.where(0, 0, w));
    }
    refused("15: whoseIs(0, 0) of no BEASTS: -5", EMPTY, NO_SUCH, x -> x.whoseIs(0, 0));
    refused("16: why(0, 0) of no BEASTS: -5", EMPTY, NO_SUCH, x -> x.why(0, 0));
    refused("17: where(0, 0, 0) of no BEASTS: -5", EMPTY, NO_SUCH, x -> x.where(0, 0, 0));
    refused("18: nobody(0) of no BEASTS: -5", EMPTY, NO_SUCH, x -> x.nobody(0));
  }

  private static void judges() {
    refused("19: judge(0, 0) of no BEASTS: -5", EMPTY, NO_SUCH, x -> x.judge(0, 0));
    for (int b : beside(0, 1)) {
      refused("19: judge(" + b + ", 0): -5", SOME, NO_SUCH, x -> x.judge(b, 0));
      refused("19: judge(" + b + ", 4): -5 ahead of BAD", SOME, NO_SUCH, x -> x.judge(b, 4));
      refused("19: judge(" + b + ", 3): -5 ahead of -11", SOME, NO_SUCH, x -> x.judge(b, 3));
    }
    for (int s : beside(0, 3)) {
      refused("19: judge(0, " + s + "): BAD", SOME, BAD, x -> x.judge(0, s));
    }
    refused("19: judge(0, 3), missing: -11", SOME, MISSING, x -> x.judge(0, 3));
    for (int n : new int[] {0, 8, 10, 40}) {
      refused("19: a SHEET of " + n + ", eight MOMENTS: BAD", x -> {
        Recipes.SOME.make(x);
        x.sheet(1, 2, n);
      }, BAD, x -> x.judge(0, 1));
    }
  }

  private static void unseen() {
    refused("20: may(0) of no BEASTS: -5", EMPTY, NO_SUCH, x -> x.may(0));
    refused("21: hangs(0) of no BEASTS: -5", EMPTY, NO_SUCH, x -> x.hangs(0));
    refused("22: least(0, 0) of no BEASTS: -5", EMPTY, NO_SUCH, x -> x.least(0, 0));
    refused("24: quarrel(0) of no BEASTS: -5", EMPTY, NO_SUCH, x -> x.quarrel(0));
    refused("25: custom(0) of no BEASTS: -5", EMPTY, NO_SUCH, x -> x.custom(0));
    for (int b : beside(0, 1)) {
      refused("20: may(" + b + "): -5", SOME, NO_SUCH, x -> x.may(b));
      refused("21: hangs(" + b + "): -5", SOME, NO_SUCH, x -> x.hangs(b));
      refused("22: least(" + b + ", 0): -5", SOME, NO_SUCH, x -> x.least(b, 0));
      refused("24: quarrel(" + b + "): -5", SOME, NO_SUCH, x -> x.quarrel(b));
      refused("25: custom(" + b + "): -5", SOME, NO_SUCH, x -> x.custom(b));
    }
    for (int p : beside(0, 9)) {
      refused("22: least(0, " + p + "): -5: one", SOME, NO_SUCH, x -> x.least(0, p));
    }
    refused("22: least(0, 9): -1, an answer, behind no refusal", SOME, -1, x -> x.least(0, 9));
  }

  private static void shares() {
    refused("23: share(0, 0, 0, 0) of no BEASTS: NO", EMPTY, NO, x -> x.share(0, 0, 0, 0));
    for (int b : beside(0, 1)) {
      refused("23: share(" + b + ", 0, 0, 0): NO", SOME, NO, x -> x.share(b, 0, 0, 0));
    }
    for (int n : beside(0, 8)) {
      refused("23: share(0, " + n + ", 0, 1): NO", SOME, NO, x -> x.share(0, n, 0, 1));
    }
    for (int p : beside(0, 9)) {
      refused("23: share(0, 8, " + p + ", 0): NO", SOME, NO, x -> x.share(0, 8, p, 0));
    }
    for (int part : beside(0, 1)) {
      refused("23: share(0, 8, 0, " + part + "): NO", SOME, NO, x -> x.share(0, 8, 0, part));
    }
  }

  private static void counts() {
    for (int w : beside(0, 6)) {
      refused("26: count(" + w + "): BAD", EMPTY, BAD, x -> x.count(w));
      refused("26: count(" + w + "): BAD", MOST, BAD, x -> x.count(w));
    }
  }

  private static void sheets() {
    for (int s : beside(0, 3)) {
      refused("29: sheet(" + s + ", 0, 1): BAD", SOME, BAD, x -> x.sheet(s, 0, 1));
      refused("29: sheet(" + s + ", -1, 1): BAD, missing or not", SOME, BAD, x -> x.sheet(s, -1, 1));
      refused("29: sheet(" + s + ", 0, -1): BAD ahead of -14", SOME, BAD, x -> x.sheet(s, 0, -1));
    }
    for (int sort : beside(-1, 2)) {
      refused("29: sheet(0, " + sort + ", 1): BAD", SOME, BAD, x -> x.sheet(0, sort, 1));
      refused("29: sheet(0, " + sort + ", -1): BAD ahead of -14", SOME, BAD, x -> x.sheet(0, sort, -1));
    }
    for (int sort = 0; sort < 3; sort++) {
      int as = sort;
      for (int n : new int[] {41, HIGH}) {
        refused("29: sheet(2, " + sort + ", " + n + "): BAD", SOME, BAD, x -> x.sheet(2, as, n));
        refused("29: sheet(3, " + sort + ", " + n + "): BAD", SOME, BAD, x -> x.sheet(3, as, n));
      }
      for (int n : new int[] {-1, -40, LOW}) {
        refused("29: sheet(2, " + sort + ", " + n + "): -14", SOME, BELOW, x -> x.sheet(2, as, n));
        refused("29: sheet(3, " + sort + ", " + n + "): -14", SOME, BELOW, x -> x.sheet(3, as, n));
      }
    }
  }

  private static void cells() {
    for (int s : beside(0, 3)) {
      refused("30: cell(" + s + ", 0, 1): BAD", SOME, BAD, x -> x.cell(s, 0, 1));
      refused("30: cell(" + s + ", 99, 1): BAD ahead of -12", SOME, BAD, x -> x.cell(s, 99, 1));
    }
    refused("30: cell(3, 0, 1), missing: -11", SOME, MISSING, x -> x.cell(3, 0, 1));
    for (int i : beside(0, 39)) {
      refused("30: cell(3, " + i + ", 1), missing: -11 ahead of -12", SOME, MISSING, x -> x.cell(3, i, 1));
      refused("30: cell(2, " + i + ", 1) of 40: -12", MOST, OUTSIDE, x -> x.cell(2, i, 1));
    }
    int[] sizes = {10, 5, 15};
    for (int s = 0; s < 3; s++) {
      int sheet = s;
      for (int i : beside(0, sizes[s] - 1)) {
        refused("30: cell(" + s + ", " + i + ", 1) of " + sizes[s] + ": -12", SOME, OUTSIDE, x -> x.cell(sheet, i, 1));
      }
    }
  }

  /** Sheet 1 as sheet 2: of ints, 12 of them. */
  private static void twoOfInts(WhoseHare x) {
    Recipes.SOME.make(x);
    x.sheet(1, 2, 12);
    x.cell(1, 10, 5);
  }

  private static final Recipes.Recipe INTS = RefusalTest::twoOfInts;

  private static void copies() {
    for (int s : beside(0, 3)) {
      refused("31: from SHEET " + s + ": BAD", SOME, BAD, x -> x.copy(s, 0, 0, 0, 1));
      refused("31: to SHEET " + s + ": BAD", SOME, BAD, x -> x.copy(0, 0, s, 0, 1));
    }
    refused("31: from a missing one: -11", SOME, MISSING, x -> x.copy(3, 0, 0, 0, 1));
    refused("31: to a missing one: -11", SOME, MISSING, x -> x.copy(0, 0, 3, 0, 1));
    refused("31: from a missing one to itself: -11", SOME, MISSING, x -> x.copy(3, 0, 3, 0, 0));
    for (int s = 0; s < 3; s++) {
      int from = s;
      int to = (s + 1) % 3;
      refused("31: unlike sorts: -13", SOME, UNLIKE, x -> x.copy(from, 0, to, 0, 1));
      refused("31: unlike sorts: -13", SOME, UNLIKE, x -> x.copy(to, 0, from, 0, 0));
    }
    int[][] outside = {{-1, 0, 1}, {15, 0, 1}, {LOW, 0, 1}, {HIGH, 0, 1}, {0, -1, 1}, {0, 12, 1}, {0, LOW, 1}, {0, HIGH, 1},
        {0, 0, -1}, {0, 0, LOW}, {0, 0, HIGH}, {0, 0, 13}, {4, 0, 12}, {0, 1, 12}, {14, 0, 2}, {0, 11, 2}, {15, 0, -1},
        {1, 0, HIGH}, {0, 1, HIGH}, {HIGH, HIGH, HIGH}, {LOW, LOW, LOW}, {-1, 0, 0}, {0, -1, 0}, {16, 0, 0}, {0, 13, 0}};
    for (int[] c : outside) {
      String what = c[2] + " from " + c[0] + " of 15 to " + c[1] + " of 12: -12";
      refused("31: " + what, INTS, OUTSIDE, x -> x.copy(2, c[0], 1, c[1], c[2]));
    }
    refused("31: within one, behind its end: -12", INTS, OUTSIDE, x -> x.copy(1, 0, 1, 1, 12));
  }

  private static void copiesMoreWrong() {
    refused("31: BAD ahead of -11", SOME, BAD, x -> x.copy(3, 0, 4, 0, 1));
    refused("31: BAD ahead of -11", SOME, BAD, x -> x.copy(-1, 0, 3, 0, 1));
    refused("31: BAD ahead of -12", SOME, BAD, x -> x.copy(4, 99, 0, 99, -1));
    refused("31: -11 ahead of -12", SOME, MISSING, x -> x.copy(3, 99, 0, 99, -1));
    refused("31: -11 ahead of -12", SOME, MISSING, x -> x.copy(0, 99, 3, 99, 99));
    refused("31: -13 ahead of -12", SOME, UNLIKE, x -> x.copy(0, 99, 1, 0, 1));
    refused("31: -13 ahead of -12", SOME, UNLIKE, x -> x.copy(0, 0, 1, -1, 1));
    refused("31: -13 ahead of -12, n below 0, too", SOME, UNLIKE, x -> x.copy(2, 0, 1, 0, -1));
  }

  private static void tells() {
    for (int s : beside(0, 3)) {
      refused("32: SHEET " + s + ": BAD", SOME, BAD, x -> x.tell(s, 0, 0, 1));
    }
    for (int sort : beside(0, 2)) {
      refused("32: sort " + sort + ": BAD", SOME, BAD, x -> x.tell(0, sort, 0, 1));
    }
    for (int n : beside(0, 8)) {
      refused("32: " + n + " MOMENTS: BAD", SOME, BAD, x -> x.tell(0, 0, 0, n));
    }
    refused("32: nothing there: -11", SOME, MISSING, x -> x.tell(3, 0, 0, 1));
    refused("32: nothing there, none of them: -11", SOME, MISSING, x -> x.tell(3, 2, 0, 0));
    for (int s = 0; s < 3; s++) {
      int sheet = s;
      refused("32: of another sort: -13", SOME, UNLIKE, x -> x.tell(sheet, (sheet + 1) % 3, 0, 1));
      refused("32: of another sort: -13", SOME, UNLIKE, x -> x.tell(sheet, (sheet + 2) % 3, 0, 0));
    }
    for (int at : new int[] {-1, -4, -5, LOW, LOW + 1, 11, 14, 15, 16, HIGH, HIGH - 3, HIGH - 4, HIGH - 34}) {
      refused("32: the first at " + at + " of 15: -12, none came", SOME, OUTSIDE, x -> x.tell(2, 2, at, 1));
      refused("32: eight from " + at + " of 15: -12, none came", SOME, OUTSIDE, x -> x.tell(2, 2, at, 8));
    }
  }

  private static void tellsMoreWrong() {
    refused("32: BAD ahead of -11", SOME, BAD, x -> x.tell(3, 3, 0, 1));
    refused("32: BAD ahead of -11", SOME, BAD, x -> x.tell(3, 0, 0, 9));
    refused("32: BAD ahead of -13", SOME, BAD, x -> x.tell(2, 0, 0, -1));
    refused("32: BAD ahead of -12", SOME, BAD, x -> x.tell(2, 2, -1, 9));
    refused("32: -11 ahead of -12", SOME, MISSING, x -> x.tell(3, 2, -1, 1));
    refused("32: -13 ahead of -12", SOME, UNLIKE, x -> x.tell(2, 1, -1, 1));
    refused("32: -13 ahead of -12", SOME, UNLIKE, x -> x.tell(2, 0, HIGH, 8));
  }

  private static void takens() {
    for (int kind : beside(0, 6)) {
      refused("33: KIND " + kind + ": BAD", SOME, BAD, x -> x.taken(0, kind));
      refused("33: KIND " + kind + ": BAD ahead of -12", SOME, BAD, x -> x.taken(50, kind));
      refused("33: KIND " + kind + ": BAD ahead of -11", SOME, BAD, x -> x.taken(49, kind));
    }
    for (int i : beside(0, 49)) {
      refused("33: place " + i + ": -12", MOST, OUTSIDE, x -> x.taken(i, 0));
      refused("33: place " + i + ": -12", EMPTY, OUTSIDE, x -> x.taken(i, 6));
    }
    int many = behind(SOME).claims(8);
    for (int kind = 0; kind < 7; kind++) {
      int as = kind;
      for (int i : new int[] {0, 5, 6, 49}) {
        refused("33: place " + i + " of nothing: -11", EMPTY, MISSING, x -> x.taken(i, as));
      }
      for (int i : new int[] {2, 5, 6 + many, 49}) {
        refused("33: nothing at place " + i + ": -11 ahead of -13", SOME, MISSING, x -> x.taken(i, as));
      }
      if (kind < 6) {
        refused("33: a BEAST for a CLAIM of KIND " + kind + ": -13", SOME, UNLIKE, x -> x.taken(1, as));
      }
    }
    refused("33: a CLAIM for a BEAST: -13", SOME, UNLIKE, x -> x.taken(6, 6));
    refused("33: a HOME for a GROUND: -13", SOME, UNLIKE, x -> x.taken(6, 4));
    refused("33: a GROUND for a HOME: -13", SOME, UNLIKE, x -> x.taken(7, 5));
  }
}
