/**
 * Promises 12 to 25 of one BEAST among others, each with a HOME of its own: what is asked of one is told of that one,
 * and what others do does not matter to it.
 */
public final class BeastsTest {
  private static final Checks CHECKS = new Checks("BeastsTest");
  private static final int SEEN = 0, STARTED = 1, WOUNDED = 2, HELD = 3, LOST = 4, CROSSES = 5, KILLED = 6, TAKEN = 7;
  private static final int LET_GO = 8, GIVEN = 9;
  private static final int STANDS = 5, WORTH = 7;
  private static final int NOBODYS = 1 << 10;

  private BeastsTest() { }

  private static void due(String what, long got, long want) {
    CHECKS.due(what, got, want);
  }

  public static void main(String[] args) {
    whose();
    judged();
    lost();
    killed();
    places();
    homes();
    followed();
    tamed();
    unseen();
    customs();
    othersDoNotMatter();
    CHECKS.end();
  }

  /**
   * Ground 0 is nobody's, 1 is 0's, 2 is 9's, 3 is 5's. Beast 0 is wild, at home on 1: claim 0; beast 1 is 4's, at home
   * on 2: claims 1, 2; beast 2 is wild, at home on 0: none.
   */
  private static WhoseHare land() {
    WhoseHare x = new WhoseHare();
    x.ground(-1);
    x.ground(0);
    x.ground(9);
    x.ground(5);
    x.beast(1, -1);
    x.beast(2, 4);
    x.beast(0, -1);
    return x;
  }

  private static void law(WhoseHare x, String worth, String follow) {
    due("10: a TEXT", Checks.read(x, "worth " + worth + ";follow " + follow + ";"), x.count(4) - 1);
    x.force(x.count(4) - 1);
  }

  private static void stands(String what, WhoseHare x, int i, int want) {
    due(what + ": claim " + i, x.claimTold(x.count(2), i, STANDS), want);
  }

  private static void whose() {
    WhoseHare x = land();
    int[] whose = {0, 4, -1};
    int[] why = {0, 1, -1};
    int[] nobody = {0, 0, 1};
    for (int b = 0; b < 3; b++) {
      due("15: whose " + b + " is", x.whoseIs(b, 0), whose[b]);
      due("16: by which CLAIM " + b, x.why(b, 0), why[b]);
      due("18: how often nobody's " + b, x.nobody(b), nobody[b]);
      due("24: nor do they quarrel about " + b, x.quarrel(b), 0);
    }
    x.moment(3, HELD, 2, 7, 0);
    x.moment(3, TAKEN, 1, 8, 0);
    int[] whoseThen = {0, 8, 7};
    int[] whyThen = {0, 4, 3};
    for (int b = 0; b < 3; b++) {
      due("15: whose " + b + " is then", x.whoseIs(b, 2), whoseThen[b]);
      due("16: by which CLAIM " + b + " then", x.why(b, 2), whyThen[b]);
      due("18: how often nobody's " + b, x.nobody(b), nobody[b]);
    }
  }

  private static void judged() {
    WhoseHare x = land();
    x.moment(3, HELD, 2, 7, 0);
    int[][] whose = {{0, 0}, {4, 4}, {-1, 7}};
    for (int b = 0; b < 3; b++) {
      for (int told = 0; told < 3; told++) {
        x.sheet(told, 2, 2);
        x.cell(told, 0, whose[told][0]);
        x.cell(told, 1, whose[told][1]);
        due("19: of " + b + " what is right of " + told, x.judge(b, told), b == told ? -1 : 0);
      }
    }
    x.cell(2, 1, 0);
    due("19: 2 isn't 0's then", x.judge(2, 2), 1);
  }

  /** By 3 all are seen, started, wounded, then one of them is LOST, whatever the NUMBER. */
  private static void lost() {
    for (int b = 0; b < 3; b++) {
      for (int n = 0; n < 3; n++) {
        WhoseHare x = land();
        for (int k = 0; k < 9; k++) {
          x.moment(1, SEEN + k / 3, k % 3, 3, 0);
        }
        x.moment(2, LOST, b, 3, n);
        x.moment(3, SEEN, 0, 8, 0);
        for (int k = 0; k < 9; k++) {
          stands("14: only that BEAST's are LOST", x, 3 + k, k % 3 == b ? 0 : 1);
        }
      }
    }
  }

  private static void killed() {
    for (int b = 0; b < 3; b++) {
      WhoseHare x = land();
      for (int k = 0; k < 3; k++) {
        x.moment(1, SEEN, k, 3, 0);
        x.moment(1, SEEN, k, 6, 0);
      }
      x.moment(2, KILLED, b, 3, 0);
      for (int k = 0; k < 3; k++) {
        stands("14: BY's own", x, 3 + 2 * k, 1);
        stands("14: only that BEAST's are ended", x, 4 + 2 * k, k == b ? 0 : 1);
        due("17: only that one is dead", x.where(k, 7, 2), k == b ? 1 : 0);
      }
      int claims = x.claims(7);
      for (int k = 0; k < 3; k++) {
        x.moment(3, STARTED, k, 7, 0);
      }
      due("13: STARTED of the two that live", x.claims(10) - claims, 2);
    }
  }

  private static void places() {
    WhoseHare x = land();
    x.moment(5, CROSSES, 1, 8, 0);
    x.moment(7, CROSSES, 2, 8, 1);
    x.moment(8, CROSSES, 0, 8, 0);
    int[] at = {0, 0, 1};
    int[] away = {8, 5, 7};
    int[] home = {1, 2, 0};
    for (int b = 0; b < 3; b++) {
      due("17: where " + b + " is", x.where(b, 3, 0), at[b]);
      due("17: AWAY since", x.where(b, 3, 1), away[b]);
      due("17: behind none at HOME", x.where(b, 0, 0), home[b]);
      due("17: behind none never AWAY, asked behind that", x.where(b, 0, 1), 0);
    }
    x.moment(9, CROSSES, 2, 8, 0);
    x.moment(10, CROSSES, 1, 8, 1);
    x.moment(11, CROSSES, 2, 8, 3);
    due("17: AWAY anew from its own HOME", x.where(2, 6, 1), 11);
    due("17: it wasn't at its own HOME, though at another's", x.where(1, 6, 1), 5);
    due("17: where it is", x.where(1, 6, 0), 1);
    due("13: CLAIMS of grounds that are somebody's", x.claims(6), 6);
  }

  private static void homes() {
    WhoseHare x = land();
    x.moment(5, CROSSES, 1, 8, 1);
    x.moment(30, CROSSES, 0, 8, 2);
    x.moment(36, SEEN, 2, 8, 0);
    stands("14: 31 behind its own AWAY, at another's HOME", x, 1, 0);
    due("14: 30 behind it", x.claimTold(2, 1, STANDS), 1);
    WhoseHare y = land();
    y.moment(5, CROSSES, 0, 8, 0);
    y.moment(90, SEEN, 2, 8, 0);
    stands("14: at its own HOME, though another is AWAY", y, 1, 1);
  }

  /** Onto grounds of 9's, or 5's, none may follow a wild one. */
  private static void followed() {
    WhoseHare x = land();
    law(x, "1", "weight<6 or tame or who=8");
    for (int b = 0; b < 3; b++) {
      x.moment(1, STARTED, b, 2, 0);
      x.moment(1, WOUNDED, b, 7, 0);
      x.moment(1, STARTED, b, 8, 0);
    }
    x.moment(2, CROSSES, 2, 8, 2);
    x.moment(3, CROSSES, 1, 8, 3);
    // behind 9 + k moments: of beasts 0, 1, 2 whether a CHASE of 2's, a WOUND of 7's, a CHASE of 8's STANDS
    int[][] stands = {{1, 1, 1}, {1, 1, 0}, {1, 1, 0}};
    for (int k = 0; k < 3; k++) {
      for (int b = 0; b < 3; b++) {
        String what = "14: onto the GROUND where " + b + " is, behind " + (9 + k);
        due(what + ", 2 may FOLLOW", x.claimTold(9 + k, 3 + 3 * b, STANDS), stands[k][b]);
        due(what + ", 7 may FOLLOW", x.claimTold(9 + k, 4 + 3 * b, STANDS), stands[k][b]);
        due(what + ", 8 may FOLLOW", x.claimTold(9 + k, 5 + 3 * b, STANDS), 1);
      }
    }
    for (int g = 0; g < 4; g++) {
      for (int b = 0; b < 3; b++) {
        due("12: 2 onto " + g + ", BEAST " + b, x.follow(2, g, b), g < 2 || b == 1 ? 1 : 0);
        due("12: 8 onto " + g + ", BEAST " + b, x.follow(8, g, b), 1);
      }
    }
  }

  private static void tamed() {
    WhoseHare x = land();
    law(x, "tame+5", "tame=0");
    for (int b = 0; b < 3; b++) {
      x.moment(1, SEEN, b, 2, 0);
      due("14: tame: 1, if the BEAST is, else 0", x.claimTold(b + 1, 3 + b, WORTH), b == 1 ? 6 : 5);
      due("12: tame: 1, if the BEAST is, else 0", x.follow(2, 0, b), b == 1 ? 0 : 1);
    }
    law(x, "ground+5", "ground=0");
    x.moment(2, SEEN, 1, 9, 0);
    int[] ground = {1, 0, 1, 0, 0, 0, 1};
    for (int i = 0; i < 7; i++) {
      due("14: ground: 1, if where the BEAST is is that one's, else 0", x.claimTold(4, i, WORTH), 5 + ground[i]);
    }
  }

  private static void unseen() {
    WhoseHare x = land();
    x.moment(1, HELD, 0, 6, 0);
    x.moment(2, SEEN, 2, 3, 0);
    x.moment(3, TAKEN, 1, 8, 0);
    for (int m = 0; m < 3; m++) {
      x.unsure(m, 1);
    }
    int[] may = {1 | 1 << 6, 1 << 4 | 1 << 8, 1 << 3 | NOBODYS};
    int[] hangs = {1, 4, 2};
    for (int b = 0; b < 3; b++) {
      due("20: whose " + b + " may be", x.may(b), may[b]);
      due("21: what hangs on of " + b, x.hangs(b), hangs[b]);
    }
    due("22: 0 is 0's without the first", x.least(0, 0), 1);
    due("22: 1 is 4's without the third", x.least(1, 4), 4);
    due("22: 2 is 3's without any", x.least(2, 3), 0);
    due("22: 2 is 6's in no way, though 0 is", x.least(2, 6), -1);
    x.unsure(0, 0);
    due("21: 0 hangs on none", x.hangs(0), 0);
    due("21: 1 hangs on the second then", x.hangs(1), 2);
    due("21: 2 hangs on the first then", x.hangs(2), 1);
  }

  /** By texts 1 and 2 they quarrel as often, less often than by text 0: then it counts how often it is nobody's. */
  private static void customs() {
    WhoseHare x = land();
    x.moment(1, SEEN, 2, 2, 0);
    x.moment(1, SEEN, 2, 6, 0);
    x.moment(2, LOST, 2, 2, 0);
    x.moment(3, STARTED, 2, 8, 0);
    x.moment(3, STARTED, 2, 9, 0);
    due("24: 2 and 6 behind 2, 8 and 9 behind 5", x.quarrel(2), 2);
    due("18: 2 is nobody's behind 0", x.nobody(2), 1);
    law(x, "(who=6)+(7<who)*2", "1");
    due("24: 8 and 9 behind 5", x.quarrel(2), 1);
    due("18: 2 is nobody's behind 0, 1", x.nobody(2), 2);
    due("25: they quarrel less often", x.custom(2), 1);
    law(x, "who+(who=8)", "1");
    due("24: 8 and 9 behind 5", x.quarrel(2), 1);
    due("18: 2 is nobody's behind 0", x.nobody(2), 1);
    due("25: as often, but nobody's less often", x.custom(2), 2);
    law(x, "who+(who=8)", "1");
    due("25: of like ones the first", x.custom(2), 2);
    due("25: about 0 they never quarrel, nor is it nobody's, by text 0", x.custom(0), 0);
    due("25: nor about 1", x.custom(1), 0);
    law(x, "(kind=0)*4+(kind=1)*3", "0");
    due("24: behind 2 alone, as none may FOLLOW", x.quarrel(2), 1);
    due("25: not the one by which 0 and 1 are nobody's", x.custom(0) + x.custom(1), 0);
  }

  private static final int[][] STORY = {{1, SEEN, 2, 0}, {2, STARTED, 3, 0}, {4, WOUNDED, 5, 6}, {5, CROSSES, 5, 2},
      {9, LOST, 5, 0}, {12, HELD, 6, 0}, {15, GIVEN, 6, 8}, {16, LET_GO, 8, 0}};
  private static final int[][] OTHER_STORY = {{10, CROSSES, 2, 3}, {11, TAKEN, 5, 0}, {20, WOUNDED, 2, 9},
      {25, LET_GO, 5, 0}, {30, LOST, 2, 0}, {40, KILLED, 7, 0}, {41, CROSSES, 2, 0}, {50, HELD, 4, 0}};

  /** What is told of a BEAST that is alone is told of it among others, to whom the same happens at other times. */
  private static void othersDoNotMatter() {
    for (int[][] story : new int[][][] {STORY, OTHER_STORY}) {
      for (int b = 0; b < 4; b++) {
        for (int keeper = -1; keeper < 5; keeper += 5) {
          WhoseHare alone = alone(story, keeper);
          WhoseHare among = among(story, keeper, b);
          for (int n = 0; n <= story.length; n++) {
            alike(alone, among, b, n);
          }
        }
      }
    }
  }

  private static void grounds(WhoseHare x) {
    x.ground(4);
    x.ground(-1);
    x.ground(9);
    x.ground(2);
    law(x, "weight*20+ground*7+since+tame*3", "weight<5 or tame");
  }

  private static WhoseHare alone(int[][] story, int keeper) {
    WhoseHare x = new WhoseHare();
    grounds(x);
    x.beast(1, keeper);
    for (int[] m : story) {
      x.moment(m[0], m[1], 0, m[2], m[3]);
    }
    return x;
  }

  private static WhoseHare among(int[][] story, int keeper, int b) {
    WhoseHare x = new WhoseHare();
    grounds(x);
    for (int k = 0; k < 4; k++) {
      x.beast(k == b ? 1 : (k + 2) % 4, k == b ? keeper : k % 2 == 0 ? -1 : k);
    }
    for (int j = 0; j < story.length; j++) {
      for (int k = 0; k < 4; k++) {
        int[] m = story[k == b ? j : (j + k + 1) % story.length];
        x.moment(story[j][0], m[1], k, m[2], m[3]);
      }
    }
    return x;
  }

  private static void alike(WhoseHare alone, WhoseHare among, int b, int n) {
    int all = 4 * n;
    due("15: of " + b + " behind " + n, among.whoseIs(b, all), alone.whoseIs(0, n));
    for (int w = 0; w < 3; w++) {
      due("17: of " + b + " behind " + n + " what " + w, among.where(b, all, w), alone.where(0, n, w));
    }
    int whose = alone.whoseIs(0, n);
    for (int part = 0; part < 2 && whose >= 0; part++) {
      due("23: of " + b + " behind " + n, among.share(b, all, whose, part), alone.share(0, n, whose, part));
    }
    int i = alone.why(0, n);
    int j = among.why(b, all);
    due("16: of " + b + " behind " + n, j < 0 ? 0 : 1, i < 0 ? 0 : 1);
    for (int w = 0; w < 8 && i >= 0 && j >= 0; w++) {
      int told = among.claimTold(all, j, w);
      due("14: of " + b + " behind " + n + " what " + w, told, w == 2 ? b : alone.claimTold(n, i, w));
    }
  }
}
