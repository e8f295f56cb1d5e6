/** Promises 13 to 18: claims, what they weigh and whether they stand, whose a beast is, where it is. */
public final class ClaimTest {
  private static final Checks CHECKS = new Checks("ClaimTest");
  private static final int STANDS = 5;

  private ClaimTest() { }

  private static void due(String what, long got, long want) {
    CHECKS.due(what, got, want);
  }

  /** Claim i behind all moments: kind, whose, beast, since, badly, stands, weight. */
  private static void claim(String what, WhoseHare x, int i, int... due) {
    for (int w = 0; w < due.length; w++) {
      due(what + ": claim " + i + " what " + w, x.claimTold(x.count(2), i, w), due[w]);
    }
  }

  public static void main(String[] args) {
    first();
    made();
    afterDeath();
    losing();
    woundsLost();
    crossing();
    homing();
    killing();
    lettingGo();
    giving();
    groundsHeld();
    askedAnew();
    groundsSold();
    chasing();
    whose();
    refusals();
    mostClaims();
    CHECKS.end();
  }

  /** Ground 0: 0's, ground 1: 1's, ground 2: nobody's. */
  private static WhoseHare land() {
    WhoseHare x = new WhoseHare();
    x.ground(0);
    x.ground(1);
    x.ground(-1);
    return x;
  }

  private static void first() {
    WhoseHare x = land();
    x.beast(2, -1);
    due("13: wild on nobody's ground", x.claims(0), 0);
    x.beast(2, 4);
    x.beast(0, 5);
    x.beast(1, -1);
    due("13: 1 + 2 + 1", x.claims(0), 4);
    claim("14", x, 0, 5, 4, 1, 0, 0, 1, 6);
    claim("14", x, 1, 5, 5, 2, 0, 0, 1, 6);
    claim("14", x, 2, 4, 0, 2, 0, 0, 1, 4);
    claim("14", x, 3, 4, 1, 3, 0, 0, 1, 4);
    due("14: worth", x.claimTold(0, 0, 7), 60);
    due("14: worth", x.claimTold(0, 2, 7), 45);
    x.owns(2, 8);
    due("13: grounds are whose they are when it is asked", x.claims(0), 6);
    claim("14", x, 0, 4, 8, 0, 0, 0, 1, 4);
    claim("14", x, 1, 5, 4, 1);
    claim("14", x, 2, 4, 8, 1);
  }

  private static void made() {
    WhoseHare x = land();
    x.beast(2, -1);
    int[] what = {0, 1, 2, 3, 7, 4, 5, 6, 8, 9};
    int[] made = {1, 2, 3, 4, 5, 5, 6, 6, 6, 6};
    for (int k = 0; k < 10; k++) {
      x.moment(k + 1, what[k], 0, k < 5 ? k : 9, k == 5 + 1 ? 1 : 7);
      due("13: behind WHAT " + what[k], x.claims(k + 1), made[k]);
    }
    due("13: behind none", x.claims(0), 0);
    for (int i = 0; i < 5; i++) {
      int[][] due = {{0, 0, 0, 1, 0}, {1, 1, 0, 2, 0}, {2, 2, 0, 3, 7}, {3, 3, 0, 4, 0}, {3, 4, 0, 5, 5}};
      int[] weight = {1, 3, 10, 10, 15};
      claim("14", x, i, due[i]);
      due("14: weight " + i, x.claimTold(10, i, 6), weight[i]);
      due("14: it stood", x.claimTold(5, i, STANDS), 1);
    }
    claim("14", x, 5, 4, 1, 0, 7, 0, 0, 4);
  }

  private static void afterDeath() {
    WhoseHare x = land();
    x.beast(2, -1);
    x.beast(2, -1);
    x.moment(1, 6, 0, 3, 0);
    for (int w = 0; w < 3; w++) {
      x.moment(2, w, 0, 3, 0);
    }
    due("13: seen, started, wounded dead: none", x.claims(4), 0);
    x.moment(3, 0, 1, 3, 0);
    due("13: the other one lives", x.claims(5), 1);
    x.moment(3, 3, 0, 4, 0);
    x.moment(3, 7, 0, 5, 0);
    due("13: held, taken dead", x.claims(7), 3);
    x.moment(4, 5, 0, 5, 1);
    due("13: a dead one doesn't cross", x.claims(8), 3);
    due("17: it stays", x.where(0, 8, 0), 2);
    due("17: nor is it away", x.where(0, 8, 1), 0);
    due("17: dead", x.where(0, 8, 2), 1);
    due("17: not ahead of it", x.where(0, 0, 2), 0);
    due("17: not the other", x.where(1, 8, 2), 0);
  }

  private static void losing() {
    WhoseHare x = land();
    x.beast(0, 0);
    x.beast(0, 0);
    for (int w = 0; w < 4; w++) {
      x.moment(1, w, 0, 0, 0);
    }
    x.moment(1, 0, 0, 2, 0);
    x.moment(2, 4, 0, 0, 0);
    x.moment(3, 0, 0, 0, 0);
    claim("14: HOME is never lost", x, 0, 5, 0, 0, 0, 0, 1);
    claim("14: CLAIM is", x, 4, 0, 0, 0, 1, 0, 0);
    claim("14: CHASE is", x, 5, 1, 0, 0, 1, 0, 0);
    claim("14: WOUND of 0, by 1", x, 6, 2, 0, 0, 1, 0, 0);
    claim("14: HOLD never", x, 7, 3, 0, 0, 1, 0, 1);
    claim("14: another one's isn't", x, 8, 0, 2, 0, 1, 0, 1);
    claim("14: one that came since isn't", x, 9, 0, 0, 0, 3, 0, 1);
    claim("14: of the other beast not", x, 3, 4, 0, 1, 0, 0, 1);
    x.moment(3, 8, 0, 0, 0);
    claim("14: GROUND is, held or not", x, 1, 4, 0, 0, 0, 0, 0);
  }

  private static void woundsLost() {
    WhoseHare x = land();
    x.beast(2, -1);
    x.moment(1, 2, 0, 3, 4);
    x.moment(1, 2, 0, 4, 0);
    x.moment(5, 4, 0, 3, 0);
    x.moment(5, 4, 0, 4, 0);
    due("14: not at once, even of 0", x.claimTold(4, 1, STANDS), 1);
    x.moment(6, 9, 0, 9, 9);
    due("14: one behind 0", x.claimTold(5, 1, STANDS), 0);
    x.moment(8, 4, 0, 3, 0);
    x.moment(9, 9, 0, 9, 9);
    due("14: no more than 4 behind", x.claimTold(7, 0, STANDS), 1);
    x.moment(10, 9, 0, 9, 9);
    due("14: a second LOST does not count: 5 behind", x.claimTold(8, 0, STANDS), 0);
    due("14: it was lost behind moment 2 only", x.claimTold(2, 0, STANDS), 1);
  }

  private static void crossing() {
    WhoseHare x = land();
    x.beast(0, -1);
    x.moment(0, 5, 0, 9, 0);
    due("13: it is there already", x.claims(1), 1);
    due("17: never away", x.where(0, 1, 1), 0);
    x.moment(3, 5, 0, 9, 1);
    claim("14: the place's", x, 1, 4, 1, 0, 3, 0, 1);
    claim("14: not at its place", x, 0, 4, 0, 0, 0, 0, 0);
    due("17: on 1", x.where(0, 2, 0), 1);
    due("17: away since 3", x.where(0, 2, 1), 3);
    x.moment(7, 5, 0, 9, 2);
    due("13: nobody's ground", x.claims(3), 2);
    due("17: away since 3 still", x.where(0, 3, 1), 3);
    x.moment(8, 5, 0, 9, 0);
    due("17: was away since 3", x.where(0, 4, 1), 3);
    due("13: the home's claim is made anew", x.claims(4), 3);
    claim("14: the first stands again", x, 0, 4, 0, 0, 0, 0, 1);
    claim("14: so does the new one", x, 2, 4, 0, 0, 8, 0, 1);
    x.moment(9, 5, 0, 9, 1);
    due("17: away since 9", x.where(0, 5, 1), 9);
    due("17: on 0 at first", x.where(0, 0, 0), 0);
  }

  private static void homing() {
    WhoseHare x = land();
    x.beast(2, 6);
    x.moment(10, 5, 0, 9, 1);
    x.moment(40, 9, 0, 9, 9);
    due("14: 30 behind", x.claimTold(2, 0, STANDS), 1);
    x.moment(41, 9, 0, 9, 9);
    due("14: 31 behind", x.claimTold(3, 0, STANDS), 0);
    x.moment(50, 5, 0, 9, 0);
    due("14: on another ground", x.claimTold(4, 0, STANDS), 0);
    x.moment(51, 5, 0, 9, 2);
    due("14: at home", x.claimTold(5, 0, STANDS), 1);
    x.moment(60, 5, 0, 9, 1);
    x.moment(90, 9, 0, 9, 9);
    due("14: away anew", x.claimTold(7, 0, STANDS), 1);
    x.moment(200, 6, 0, 9, 9);
    x.moment(201, 9, 0, 6, 3);
    x.moment(201, 8, 0, 6, 3);
    claim("14: HOME is no KIND 3: not given, not let go", x, 0, 5, 6, 0, 0, 0, 0, 6);
  }

  private static void killing() {
    WhoseHare x = land();
    x.beast(0, 5);
    x.beast(0, -1);
    x.moment(1, 0, 1, 4, 0);
    for (int w = 0; w < 4; w++) {
      x.moment(1, w, 0, 3, 0);
      x.moment(1, w, 0, 4, 0);
    }
    x.moment(2, 8, 0, 3, 0);
    x.moment(2, 8, 0, 4, 0);
    x.moment(2, 6, 0, 3, 0);
    int[] stands = {1, 1, 1, 1, 1, 0, 1, 0, 1, 0, 0, 0};
    for (int i = 0; i < 12; i++) {
      due("14: behind KILLED claim " + i, x.claimTold(12, i, STANDS), stands[i]);
    }
    x.moment(3, 6, 0, 4, 0);
    for (int i = 4; i < 10; i++) {
      due("14: killed again by 4: none of both", x.claimTold(13, i, STANDS), 0);
    }
    x.moment(3, 7, 0, 3, 0);
    x.moment(3, 6, 0, 4, 0);
    claim("14: a HOLD doesn't yield", x, 12, 3, 3, 0, 3, 5, 1, 15);
  }

  private static void lettingGo() {
    WhoseHare x = land();
    x.beast(2, -1);
    x.beast(2, -1);
    x.moment(1, 3, 0, 3, 0);
    x.moment(1, 7, 0, 3, 0);
    x.moment(1, 3, 0, 4, 0);
    x.moment(1, 3, 1, 3, 0);
    x.moment(1, 1, 0, 3, 0);
    x.moment(2, 8, 0, 3, 0);
    int[] stands = {0, 0, 1, 1, 1};
    for (int i = 0; i < 5; i++) {
      due("14: behind LET GO claim " + i, x.claimTold(6, i, STANDS), stands[i]);
    }
    due("16: the other's HOLD", x.why(0, 6), 2);
  }

  private static void giving() {
    WhoseHare x = land();
    x.beast(2, -1);
    x.beast(2, -1);
    x.moment(1, 3, 0, 3, 0);
    x.moment(1, 8, 0, 3, 0);
    x.moment(2, 7, 0, 3, 0);
    x.moment(2, 2, 0, 3, 9);
    x.moment(2, 3, 1, 3, 0);
    x.moment(2, 3, 0, 4, 0);
    x.moment(3, 9, 0, 3, 6);
    claim("14: ended ones, too", x, 0, 3, 6, 0, 1, 0, 0);
    claim("14: given", x, 1, 3, 6, 0, 2, 5, 1);
    claim("14: a WOUND isn't", x, 2, 2, 3, 0, 2, 9, 1);
    claim("14: of another beast not", x, 3, 3, 3, 1, 2, 0, 1);
    claim("14: of another one not", x, 4, 3, 4, 0, 2, 0, 1);
    due("14: it was 3's", x.claimTold(6, 1, 1), 3);
    x.moment(4, 9, 0, 6, 3);
    claim("14: and back", x, 0, 3, 3, 0, 1, 0, 0);
  }

  private static void groundsHeld() {
    WhoseHare x = land();
    x.beast(0, 2);
    x.beast(0, 2);
    due("14: a HOME doesn't hold", x.claimTold(0, 1, STANDS), 1);
    x.moment(1, 3, 0, 0, 0);
    due("14: held, if by the same", x.claimTold(1, 1, STANDS), 0);
    due("14: the other beast isn't", x.claimTold(1, 3, STANDS), 1);
    due("14: nor was it ahead of that", x.claimTold(0, 1, STANDS), 1);
    x.moment(1, 4, 0, 0, 0);
    due("14: lost from sight it is held", x.claimTold(2, 4, STANDS), 1);
    x.undo();
    x.moment(1, 8, 0, 0, 0);
    due("14: let go", x.claimTold(2, 1, STANDS), 1);
  }

  /** Questions don't hang on what was asked ahead of them. */
  private static void askedAnew() {
    WhoseHare x = land();
    x.beast(2, 6);
    x.moment(90, 5, 0, 9, 0);
    x.moment(90, 3, 0, 9, 0);
    x.moment(95, 6, 0, 9, 0);
    Checks.read(x, "worth since;follow 1;");
    x.force(1);
    due("14: since 0, now 95", x.claimTold(3, 0, 7), 95);
    due("14: now 0", x.claimTold(0, 0, 7), 0);
    due("17: was away since 90", x.where(0, 3, 1), 90);
    due("17: never away", x.where(0, 0, 1), 0);
    due("17: not dead", x.where(0, 2, 2), 0);
    x.undo();
    x.undo();
    due("33: a claim that was", x.taken(8, 3), -11);
    WhoseHare y = land();
    y.beast(2, -1);
    y.moment(1, 3, 0, 4, 0);
    y.moment(2, 5, 0, 4, 0);
    due("14: held by claim 0", y.claimTold(2, 1, STANDS), 0);
    y.moment(3, 8, 0, 4, 0);
    due("14: claim 0 let go", y.claimTold(3, 1, STANDS), 1);
  }

  private static void groundsSold() {
    WhoseHare x = land();
    x.beast(0, -1);
    x.moment(1, 5, 0, 9, 1);
    x.moment(2, 5, 0, 9, 0);
    due("15: 0's", x.whoseIs(0, 2), 0);
    x.owns(0, 7);
    due("15: 7's, as it is now 7's ground", x.whoseIs(0, 2), 7);
    x.owns(0, -1);
    due("13: only the one of ground 1", x.claims(2), 1);
    due("15: nobody's", x.whoseIs(0, 2), -1);
  }

  private static void chasing() {
    WhoseHare x = land();
    x.beast(2, -1);
    x.moment(1, 1, 0, 1, 0);
    x.moment(1, 2, 0, 0, 5);
    x.moment(1, 0, 0, 0, 0);
    x.moment(2, 5, 0, 9, 0);
    x.moment(3, 5, 0, 9, 1);
    Checks.read(x, "worth weight;follow ground or not weight;");
    x.force(1);
    int[][] stands = {{1, 1, 1}, {0, 1, 1}, {1, 0, 1}};
    for (int n = 3; n < 6; n++) {
      for (int i = 0; i < 3; i++) {
        due("14: CHASE, WOUND may follow behind " + n, x.claimTold(n, i, STANDS), stands[n - 3][i]);
      }
    }
    due("15: 0's behind 4", x.whoseIs(0, 4), 0);
    due("15: 1's behind 5, by its ground", x.whoseIs(0, 5), 1);
    due("16: by that of the ground", x.why(0, 5), 4);
  }

  private static void whose() {
    WhoseHare x = land();
    x.beast(2, -1);
    x.beast(0, -1);
    x.moment(1, 1, 0, 6, 0);
    x.moment(1, 1, 0, 5, 0);
    due("15: of like ones the first", x.whoseIs(0, 2), 6);
    due("16: claim 1", x.why(0, 2), 1);
    due("15: nobody's at first", x.whoseIs(0, 0), -1);
    due("16: by none", x.why(0, 0), -1);
    due("18: once", x.nobody(0), 1);
    due("18: never", x.nobody(1), 0);
    x.moment(1, 2, 0, 5, 1);
    due("15: worth more", x.whoseIs(0, 3), 5);
    due("16: claim 3", x.why(0, 3), 3);
    Checks.read(x, "worth who - 5;follow 1;");
    x.force(1);
    due("15: worth 0 is none, 1 is", x.whoseIs(0, 3), 6);
    due("15: by 0 - 5 nobody's", x.whoseIs(1, 3), -1);
    due("18: always", x.nobody(1), 4);
    x.moment(2, 4, 0, 6, 0);
    due("15: what doesn't stand doesn't count", x.whoseIs(0, 4), -1);
    due("18: twice", x.nobody(0), 2);
  }

  private static void refusals() {
    WhoseHare x = land();
    x.beast(2, -1);
    x.moment(1, 0, 0, 6, 0);
    due("13: -1", x.claims(-1), WhoseHare.BAD);
    due("13: 2", x.claims(2), WhoseHare.BAD);
    due("14: n 2", x.claimTold(2, 9, 9), WhoseHare.BAD);
    due("14: n -1", x.claimTold(-1, 0, 0), WhoseHare.BAD);
    due("14: claim 1", x.claimTold(1, 1, 9), -5);
    due("14: claim -1", x.claimTold(1, -1, 0), -5);
    due("14: not yet there", x.claimTold(0, 0, 0), -5);
    due("14: what 8", x.claimTold(1, 0, 8), -7);
    due("14: what -1", x.claimTold(1, 0, -1), -7);
    int[] beasts = {-1, 1};
    for (int b : beasts) {
      due("15: beast", x.whoseIs(b, 9), -5);
      due("16: beast", x.why(b, 9), -5);
      due("17: beast", x.where(b, 9, 9), -5);
      due("18: beast", x.nobody(b), -5);
    }
    int[] counts = {-1, 2};
    for (int n : counts) {
      due("15: n", x.whoseIs(0, n), -7);
      due("16: n", x.why(0, n), -7);
      due("17: n", x.where(0, n, 0), -7);
    }
    due("17: what 3", x.where(0, 1, 3), -7);
    due("17: what -1", x.where(0, 1, -1), -7);
  }

  private static void mostClaims() {
    WhoseHare x = land();
    for (int b = 0; b < 6; b++) {
      x.beast(b % 2, 9);
    }
    for (int m = 0; m < 32; m++) {
      x.moment(m, 3, m % 6, 8, 0);
    }
    due("13: 12 and 32", x.claims(32), 44);
    due("14: the last one's since", x.claimTold(32, 43, 3), 31);
    due("14: none behind it", x.claimTold(32, 44, 3), -5);
    due("33: at place 49", x.taken(49, 3), 8);
  }
}
