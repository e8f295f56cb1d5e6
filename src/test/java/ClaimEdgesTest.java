/**
 * Promises 13 to 18 and what the terms tell of moments, claims and kinds: the last TIME at which something holds and the
 * first at which it doesn't, what is dead, ended, lost, given, and nobody's. RefusalTest has what isn't taken.
 */
public final class ClaimEdgesTest {
  private static final Checks CHECKS = new Checks("ClaimEdgesTest");
  private static final int SEEN = 0, STARTED = 1, WOUNDED = 2, HELD = 3, LOST = 4, CROSSES = 5, KILLED = 6, TAKEN = 7;
  private static final int LET_GO = 8, GIVEN = 9;
  private static final int STANDS = 5, WEIGHT = 6;

  private ClaimEdgesTest() { }

  private static void due(String what, long got, long want) {
    CHECKS.due(what, got, want);
  }

  public static void main(String[] args) {
    firstClaims();
    firstInOrder();
    madeBySeen();
    madeByHeld();
    noneOfTheDead();
    nothingBeforeDeath();
    whatBadlyIs();
    times();
    now();
    lostOnes();
    lostWounds();
    lostWoundTwice();
    lostAtZero();
    crossingThere();
    crossingAway();
    crossingDead();
    crossingOwners();
    killing();
    killingOthers();
    lettingGo();
    giving();
    weights();
    following();
    groundHeld();
    groundLeft();
    groundSold();
    homeAway();
    homeAgain();
    homeLasts();
    worthMost();
    likeOnes();
    worthNothing();
    nobodys();
    places();
    mostClaims();
    CHECKS.end();
  }

  /** Ground 0 is nobody's, 1 is 0's, 2 is 9's; beast 0 is wild, beast 1 is 4's, both at home on ground 0. */
  private static WhoseHare land() {
    WhoseHare x = new WhoseHare();
    x.ground(-1);
    x.ground(0);
    x.ground(9);
    x.beast(0, -1);
    x.beast(0, 4);
    return x;
  }

  private static int last(WhoseHare x) {
    return x.claims(x.count(2)) - 1;
  }

  /** Of claim i behind all moments: kind, whose, beast, since, badly, stands, weight, as many as are told. */
  private static void claim(String what, WhoseHare x, int i, int... due) {
    for (int w = 0; w < due.length; w++) {
      due(what + ": claim " + i + " what " + w, x.claimTold(x.count(2), i, w), due[w]);
    }
  }

  private static void stands(String what, WhoseHare x, int i, int want) {
    due(what + ": claim " + i, x.claimTold(x.count(2), i, STANDS), want);
  }

  /** A moment that does nothing but pass. */
  private static void pass(WhoseHare x, int t) {
    x.moment(t, LOST, 1, 8, 0);
  }

  private static void firstClaims() {
    for (int keeper = -1; keeper < 10; keeper++) {
      for (int owner = -1; owner < 10; owner++) {
        WhoseHare x = new WhoseHare();
        x.ground(owner);
        x.beast(0, keeper);
        int many = (keeper < 0 ? 0 : 1) + (owner < 0 ? 0 : 1);
        due("13: of a KEEPER " + keeper + " on " + owner + "'s ground", x.claims(0), many);
        if (keeper >= 0) {
          claim("14: the KEEPER's first", x, 0, 5, keeper, 0, 0, 0, 1, 6);
        }
        if (owner >= 0) {
          claim("14: then the GROUND's", x, many - 1, 4, owner, 0, 0, 0, 1, 4);
        }
      }
    }
    due("13: without BEASTS", new WhoseHare().claims(0), 0);
  }

  private static void firstInOrder() {
    WhoseHare x = new WhoseHare();
    x.ground(3);
    x.ground(-1);
    for (int b = 0; b < 6; b++) {
      x.beast(b % 2, b < 3 ? -1 : b);
    }
    int[][] due = {{4, 3, 0}, {4, 3, 2}, {5, 3, 3}, {5, 4, 4}, {4, 3, 4}, {5, 5, 5}};
    due("13: for each BEAST by numbers", x.claims(0), 6);
    for (int i = 0; i < 6; i++) {
      claim("14", x, i, due[i]);
    }
    x.moment(2, SEEN, 5, 1, 0);
    x.moment(2, SEEN, 0, 2, 0);
    claim("14: then as MOMENTS make them", x, 6, 0, 1, 5, 2);
    claim("14: numbered as they come", x, 7, 0, 2, 0, 2);
    x.beast(0, -1);
    due("13: not for a BEAST that didn't come", x.claims(0), 6);
  }

  private static void madeBySeen() {
    int[] weights = {1, 3, 10};
    for (int w = SEEN; w <= WOUNDED; w++) {
      for (int p = 0; p < 10; p += 9) {
        for (int n = 0; n < 10; n += 9) {
          WhoseHare x = land();
          x.moment(7, w, 0, p, n);
          due("13: one more", x.claims(1), 2);
          int weight = w == WOUNDED ? 3 + n : weights[w];
          claim("14: WHAT " + w + ", NUMBER " + n, x, 1, w, p, 0, 7, w == WOUNDED ? n : 0, 1, weight);
        }
      }
    }
  }

  private static void madeByHeld() {
    for (int n = 0; n < 10; n++) {
      WhoseHare x = land();
      x.moment(7, HELD, 0, 9, n);
      x.moment(8, TAKEN, 0, 0, n);
      due("13: two more", x.claims(2), 3);
      claim("14: HELD, BADLY 0 whatever the NUMBER", x, 1, 3, 9, 0, 7, 0, 1, 10);
      claim("14: TAKEN, BADLY 5 whatever the NUMBER", x, 2, 3, 0, 0, 8, 5, 1, 15);
    }
  }

  private static void noneOfTheDead() {
    for (int w = 0; w < 10; w++) {
      WhoseHare x = land();
      x.moment(3, KILLED, 0, 2, 0);
      x.moment(3, w, 0, 2, w == CROSSES ? 1 : 4);
      boolean made = w == HELD || w == TAKEN;
      due("13: of the dead by WHAT " + w, x.claims(2), made ? 2 : 1);
      x.moment(3, w, 1, 2, w == CROSSES ? 1 : 4);
      boolean madeOfLiving = made || w <= WOUNDED || w == CROSSES;
      due("13: of the living by WHAT " + w, x.claims(3) - x.claims(2), madeOfLiving ? 1 : 0);
    }
  }

  private static void nothingBeforeDeath() {
    for (int w = SEEN; w <= WOUNDED; w++) {
      WhoseHare x = land();
      x.moment(3, w, 0, 2, 0);
      x.moment(3, KILLED, 0, 2, 0);
      due("13: ahead of death, at the same TIME", x.claims(2), 2);
      due("17: not dead ahead of it", x.where(0, 1, 2), 0);
      due("17: dead behind it", x.where(0, 2, 2), 1);
      x.undo();
      x.moment(3, w, 0, 2, 0);
      due("13: it isn't dead any more", x.claims(2), 3);
    }
  }

  private static void whatBadlyIs() {
    for (int n = 0; n < 10; n++) {
      WhoseHare x = land();
      for (int w = 0; w < 10; w++) {
        if (w != KILLED) {
          x.moment(1, w, 0, 2, w == CROSSES ? 1 : n);
        }
      }
      int[] badly = {0, 0, 0, n, 0, 0, 5};
      int[] kinds = {5, 0, 1, 2, 3, 4, 3};
      for (int i = 0; i < 7; i++) {
        due("14: KIND of " + i, x.claimTold(9, i, 0), kinds[i]);
        due("14: BADLY of " + i, x.claimTold(9, i, 4), badly[i]);
      }
    }
  }

  private static void times() {
    WhoseHare x = land();
    x.moment(0, SEEN, 0, 2, 0);
    x.moment(999, SEEN, 0, 3, 0);
    x.moment(999, CROSSES, 0, 3, 1);
    due("14: SINCE 0", x.claimTold(3, 1, 3), 0);
    due("14: SINCE 999", x.claimTold(3, 2, 3), 999);
    due("14: of a GROUND crossed to, too", x.claimTold(3, 3, 3), 999);
    due("17: AWAY since 999", x.where(0, 3, 1), 999);
    WhoseHare y = land();
    y.moment(0, CROSSES, 0, 3, 2);
    due("17: AWAY since 0", y.where(0, 1, 1), 0);
    due("17: it is away", y.where(0, 1, 0), 2);
  }

  private static void now() {
    WhoseHare x = land();
    Checks.read(x, "worth since+1;follow 1;");
    x.force(1);
    due("14: NOW is 0 without any MOMENT", x.claimTold(0, 0, 7), 1);
    x.moment(5, SEEN, 0, 2, 0);
    due("14: NOW is the TIME of the last", x.claimTold(1, 0, 7), 6);
    due("14: its own claim's since is 0", x.claimTold(1, 1, 7), 1);
    due("14: NOW is 0 behind none still", x.claimTold(0, 0, 7), 1);
    x.moment(9, CROSSES, 0, 2, 0);
    due("14: of one that does nothing at all, too", x.claimTold(2, 1, 7), 5);
    x.moment(999, SEEN, 1, 2, 0);
    due("14: of one of another BEAST", x.claimTold(3, 1, 7), 995);
    due("14: behind two of three", x.claimTold(2, 1, 7), 5);
  }

  private static void lostOnes() {
    WhoseHare x = land();
    x.moment(1, CROSSES, 0, 5, 1);
    for (int w = SEEN; w <= HELD; w++) {
      x.moment(1, w, 0, 0, 0);
      x.moment(1, w, 0, 3, 0);
      x.moment(1, w, 1, 0, 0);
    }
    x.moment(1, LET_GO, 0, 0, 0);
    x.moment(1, LET_GO, 0, 3, 0);
    x.moment(2, LOST, 0, 0, 0);
    x.moment(3, SEEN, 0, 0, 0);
    // claims: 0 HOME of beast 1, 1 GROUND of beast 0, then by threes, 14 the new one
    stands("14: a GROUND is LOST, too", x, 1, 0);
    stands("14: a CLAIM is LOST", x, 2, 0);
    stands("14: not another one's", x, 3, 1);
    stands("14: not of another BEAST", x, 4, 1);
    stands("14: a CHASE is LOST", x, 5, 0);
    stands("14: not another one's", x, 6, 1);
    stands("14: not of another BEAST", x, 7, 1);
    stands("14: a WOUND is LOST, more than 0 behind", x, 8, 0);
    stands("14: not another one's", x, 9, 1);
    stands("14: one that is made behind it isn't", x, 14, 1);
    x.moment(3, HELD, 0, 0, 0);
    x.moment(4, LOST, 0, 0, 0);
    stands("14: a HOLD never", x, 15, 1);
    x.moment(4, LOST, 1, 4, 0);
    pass(x, 999);
    stands("14: a HOME never", x, 0, 1);
  }

  private static void lostWounds() {
    for (int badly = 0; badly < 10; badly++) {
      WhoseHare x = land();
      x.moment(3, WOUNDED, 0, 2, badly);
      x.moment(10, LOST, 0, 2, 0);
      stands("14: a WOUND of " + badly + " at once", x, 1, 1);
      pass(x, 10 + badly);
      stands("14: " + badly + " behind", x, 1, 1);
      due("14: it weighs the same", x.claimTold(3, 1, WEIGHT), 3 + badly);
      pass(x, 11 + badly);
      stands("14: " + (badly + 1) + " behind", x, 1, 0);
      due("14: it weighs the same", x.claimTold(4, 1, WEIGHT), 3 + badly);
      due("14: behind three MOMENTS it stood", x.claimTold(3, 1, STANDS), 1);
      pass(x, 999);
      stands("14: at last", x, 1, 0);
    }
    WhoseHare x = land();
    x.moment(3, WOUNDED, 0, 2, 0);
    pass(x, 999);
    stands("14: a WOUND that isn't LOST", x, 1, 1);
  }

  private static void lostWoundTwice() {
    WhoseHare x = land();
    x.moment(3, WOUNDED, 0, 2, 4);
    x.moment(10, LOST, 0, 2, 0);
    x.moment(14, LOST, 0, 2, 0);
    stands("14: no more than 4 behind the TIME at which it was LOST", x, 1, 1);
    pass(x, 15);
    stands("14: LOST already, so not anew at 14", x, 1, 0);
    x.moment(15, WOUNDED, 0, 2, 4);
    x.moment(15, LOST, 0, 2, 0);
    pass(x, 19);
    stands("14: one that came since is LOST at 15", x, 2, 1);
    stands("14: the first stays LOST", x, 1, 0);
  }

  private static void lostAtZero() {
    WhoseHare x = land();
    x.moment(0, SEEN, 0, 2, 0);
    x.moment(0, STARTED, 0, 2, 0);
    x.moment(0, WOUNDED, 0, 2, 3);
    x.moment(0, LOST, 0, 2, 0);
    stands("14: a CLAIM that is LOST at TIME 0", x, 1, 0);
    stands("14: a CHASE that is LOST at TIME 0", x, 2, 0);
    x.moment(2, LOST, 0, 2, 0);
    pass(x, 3);
    stands("14: a WOUND, 3 behind", x, 3, 1);
    pass(x, 4);
    stands("14: 4 behind; at 2 it was LOST already", x, 3, 0);
  }

  private static void crossingThere() {
    WhoseHare x = land();
    x.moment(4, CROSSES, 0, 5, 1);
    x.moment(5, CROSSES, 0, 5, 1);
    due("13: it is there already: nothing at all", x.claims(2), 2);
    due("17: there", x.where(0, 2, 0), 1);
    due("17: AWAY since 4", x.where(0, 2, 1), 4);
    WhoseHare y = land();
    y.owns(0, 7);
    y.moment(4, CROSSES, 1, 5, 0);
    due("13: at HOME already", y.claims(1), 3);
    due("17: never AWAY", y.where(1, 1, 1), 0);
  }

  private static void crossingAway() {
    WhoseHare x = land();
    x.moment(4, CROSSES, 0, 5, 1);
    x.moment(6, CROSSES, 0, 5, 2);
    due("17: it wasn't at HOME: AWAY since 4", x.where(0, 2, 1), 4);
    x.moment(7, CROSSES, 0, 5, 0);
    due("17: at HOME it was last AWAY since 4", x.where(0, 3, 1), 4);
    x.moment(8, CROSSES, 0, 5, 2);
    due("17: AWAY anew", x.where(0, 4, 1), 8);
    due("17: behind three it wasn't", x.where(0, 3, 1), 4);
    due("17: behind none never", x.where(0, 0, 1), 0);
    due("17: the other BEAST never", x.where(1, 4, 1), 0);
    due("17: it is at HOME", x.where(1, 4, 0), 0);
  }

  private static void crossingDead() {
    WhoseHare x = land();
    x.moment(4, CROSSES, 0, 5, 1);
    x.moment(5, KILLED, 0, 5, 0);
    x.moment(6, CROSSES, 0, 5, 2);
    due("17: dead: it stays", x.where(0, 3, 0), 1);
    due("17: AWAY since 4", x.where(0, 3, 1), 4);
    due("13: no CLAIM", x.claims(3), 2);
    x.moment(7, CROSSES, 1, 5, 2);
    due("17: the living one goes", x.where(1, 4, 0), 2);
    due("17: alive", x.where(1, 4, 2), 0);
  }

  private static void crossingOwners() {
    WhoseHare x = land();
    x.moment(1, CROSSES, 0, 5, 1);
    claim("14: a GROUND of 0's, BY does not matter", x, 1, 4, 0, 0, 1, 0, 1, 4);
    x.moment(2, CROSSES, 0, 5, 2);
    claim("14: a GROUND of 9's", x, 2, 4, 9, 0, 2, 0, 1, 4);
    x.moment(3, CROSSES, 0, 5, 0);
    due("13: none of nobody's", x.claims(3), 3);
    x.moment(4, CROSSES, 0, 5, 1);
    due("13: one each time", x.claims(4), 4);
    stands("14: the first of it, at its PLACE again", x, 1, 1);
    stands("14: the second of it", x, 3, 1);
    stands("14: of another PLACE", x, 2, 0);
  }

  private static void killing() {
    int[] kinds = {SEEN, STARTED, WOUNDED, HELD, TAKEN};
    for (int w : kinds) {
      WhoseHare x = land();
      x.moment(1, w, 0, 2, 3);
      x.moment(1, w, 0, 3, 3);
      x.moment(1, w, 1, 3, 3);
      x.moment(2, KILLED, 0, 2, 9);
      stands("14: BY's own by WHAT " + w, x, 1, 1);
      stands("14: another one's by WHAT " + w, x, 2, w >= HELD ? 1 : 0);
      stands("14: of another BEAST", x, 3, 1);
      due("13: KILLED makes none", x.claims(4), 4);
    }
  }

  private static void killingOthers() {
    WhoseHare x = land();
    x.owns(0, 6);
    x.moment(1, SEEN, 1, 2, 0);
    x.moment(1, LOST, 1, 2, 0);
    x.moment(2, KILLED, 1, 8, 0);
    stands("14: a HOME doesn't YIELD", x, 1, 1);
    stands("14: a GROUND doesn't YIELD", x, 2, 1);
    stands("14: a LOST one stays so", x, 3, 0);
    x.moment(2, KILLED, 1, 2, 0);
    due("17: dead still", x.where(1, 4, 2), 1);
    WhoseHare y = land();
    y.moment(1, SEEN, 0, 2, 0);
    y.moment(2, KILLED, 0, 2, 0);
    stands("14: one's own", y, 1, 1);
    y.moment(2, KILLED, 0, 3, 0);
    stands("14: KILLED by another one, too", y, 1, 0);
  }

  private static void lettingGo() {
    WhoseHare x = land();
    for (int w = SEEN; w <= HELD; w++) {
      x.moment(1, w, 1, 4, 0);
    }
    x.moment(1, TAKEN, 1, 4, 0);
    x.moment(1, HELD, 1, 5, 0);
    x.moment(1, HELD, 0, 4, 0);
    x.moment(2, LET_GO, 1, 4, 9);
    int[] stands = {1, 1, 1, 1, 0, 0, 1, 1};
    for (int i = 0; i < 8; i++) {
      stands("14: LET GO ends KIND 3 (no other) of that BEAST, BY's", x, i, stands[i]);
    }
    due("13: ended ones are CLAIMS", x.claims(8), 8);
    x.moment(3, HELD, 1, 4, 0);
    stands("14: one that is HELD anew", x, 8, 1);
    due("14: behind seven they stood", x.claimTold(7, 4, STANDS), 1);
  }

  private static void giving() {
    for (int n = 0; n < 10; n++) {
      WhoseHare x = land();
      x.moment(1, HELD, 1, 4, 0);
      x.moment(1, LET_GO, 1, 4, 0);
      x.moment(1, TAKEN, 1, 4, 0);
      x.moment(1, WOUNDED, 1, 4, 0);
      x.moment(1, HELD, 0, 4, 0);
      x.moment(1, HELD, 1, 5, 0);
      x.moment(2, GIVEN, 1, 4, n);
      claim("14: a HOME isn't given", x, 0, 5, 4, 1, 0, 0, 1);
      claim("14: an ended one is, and stays ended", x, 1, 3, n, 1, 1, 0, 0);
      claim("14: KIND 3 is, SINCE and BADLY stay", x, 2, 3, n, 1, 1, 5, 1, 15);
      claim("14: a WOUND isn't", x, 3, 2, 4, 1, 1, 0, 1);
      claim("14: of another BEAST not", x, 4, 3, 4, 0, 1, 0, 1);
      claim("14: another one's not", x, 5, 3, 5, 1, 1, 0, 1);
      due("13: GIVEN makes none", x.claims(7), 6);
      x.moment(3, LET_GO, 1, n, 0);
      stands("14: who was given it lets it go", x, 2, 0);
    }
  }

  private static void weights() {
    WhoseHare x = land();
    x.moment(1, CROSSES, 1, 5, 1);
    x.moment(1, SEEN, 1, 2, 9);
    x.moment(1, STARTED, 1, 2, 9);
    x.moment(1, WOUNDED, 1, 2, 0);
    x.moment(1, WOUNDED, 1, 2, 9);
    x.moment(1, HELD, 1, 2, 9);
    x.moment(1, TAKEN, 1, 2, 9);
    int[] due = {6, 4, 1, 3, 3, 12, 10, 15};
    for (int i = 0; i < 8; i++) {
      due("14: WEIGHT of claim " + i, x.claimTold(7, i, WEIGHT), due[i]);
      due("14: worth, also if it doesn't STAND", x.claimTold(7, i, 7), 10 * due[i] + (i == 1 ? 5 : 0));
    }
    stands("14: this one doesn't", x, 1, 0);
    x.moment(2, LET_GO, 1, 2, 0);
    due("14: WEIGHT of an ended one", x.claimTold(8, 7, WEIGHT), 15);
    due("14: worth of an ended one", x.claimTold(8, 7, 7), 150);
  }

  private static void following() {
    WhoseHare x = land();
    Checks.read(x, "worth weight;follow 0;");
    x.force(1);
    x.moment(1, CROSSES, 1, 5, 1);
    for (int w = SEEN; w <= WOUNDED; w++) {
      x.moment(1, w, 1, 2, 9);
    }
    int[] stands = {1, 1, 1, 0, 0};
    for (int i = 0; i < 5; i++) {
      stands("14: none may FOLLOW: HOME, GROUND, CLAIM do, CHASE, WOUND don't STAND", x, i, stands[i]);
    }
    x.moment(1, HELD, 1, 2, 0);
    stands("14: a HOLD does", x, 5, 1);
    due("12: none may", x.follow(2, 1, 1), 0);
    WhoseHare y = land();
    Checks.read(y, "worth weight;follow weight=1 or who=3;");
    y.force(1);
    y.moment(1, STARTED, 0, 2, 0);
    y.moment(1, WOUNDED, 0, 3, 0);
    stands("14: not where it is", y, 1, 0);
    stands("14: that one may", y, 2, 1);
    y.moment(2, CROSSES, 0, 2, 1);
    stands("14: onto this GROUND", y, 1, 1);
    y.moment(3, CROSSES, 0, 2, 2);
    stands("14: not onto that", y, 1, 0);
    due("14: but behind three it STANDS", y.claimTold(3, 1, STANDS), 1);
    y.owns(2, 0);
    stands("14: it is 0's now", y, 1, 1);
  }

  private static void groundHeld() {
    for (int by = 0; by < 10; by += 3) {
      WhoseHare x = land();
      x.moment(1, CROSSES, 0, 5, 2);
      x.moment(1, CROSSES, 1, 5, 2);
      x.moment(2, WOUNDED, 0, by, 9);
      stands("14: a WOUND isn't of KIND 3", x, 1, 1);
      stands("14: nor is a HOME", x, 2, 1);
      x.moment(2, HELD, 0, by, 0);
      stands("14: whoever holds it", x, 1, 0);
      stands("14: not that BEAST", x, 2, 1);
      x.moment(3, LOST, 0, by, 0);
      pass(x, 500);
      stands("14: a HOLD isn't LOST", x, 4, 1);
      stands("14: so it is held", x, 1, 0);
      x.moment(500, GIVEN, 0, by, 9);
      stands("14: given to the GROUND's it is held", x, 1, 0);
      x.moment(500, LET_GO, 0, 9, 0);
      due("14: let go, if it wasn't LOST by 9", x.claimTold(x.count(2), 1, STANDS), by == 9 ? 0 : 1);
    }
    WhoseHare x = land();
    x.moment(1, CROSSES, 0, 5, 2);
    x.moment(2, KILLED, 0, 5, 0);
    stands("14: of a dead BEAST", x, 1, 1);
    x.moment(2, TAKEN, 0, 5, 0);
    stands("14: until it is TAKEN", x, 1, 0);
  }

  private static void groundLeft() {
    WhoseHare x = land();
    x.moment(1, CROSSES, 0, 5, 2);
    x.moment(2, CROSSES, 0, 5, 0);
    stands("14: the BEAST isn't at its PLACE", x, 1, 0);
    due("14: it was", x.claimTold(1, 1, STANDS), 1);
    x.moment(3, LOST, 0, 9, 0);
    x.moment(4, CROSSES, 0, 5, 2);
    stands("14: at its PLACE, but LOST", x, 1, 0);
    stands("14: made anew", x, 2, 1);
  }

  private static void groundSold() {
    WhoseHare x = land();
    x.moment(1, CROSSES, 0, 5, 2);
    x.owns(2, 3);
    claim("14: GROUNDS being whose they are when it is asked", x, 1, 4, 3, 0, 1, 0, 1, 4);
    x.owns(2, -1);
    due("13: nobody's: none", x.claims(1), 1);
    x.owns(0, 9);
    due("13: those of their HOME, by numbers", x.claims(0), 3);
    claim("14: of wild 0", x, 0, 4, 9, 0, 0, 0, 0);
    claim("14: of tame 1", x, 2, 4, 9, 1, 0, 0, 1);
  }

  private static void homeAway() {
    for (int left : new int[] {0, 1, 100, 969}) {
      WhoseHare x = land();
      x.moment(left, CROSSES, 1, 5, 1);
      stands("14: AWAY, at once", x, 0, 1);
      pass(x, left + 29);
      stands("14: 29 behind", x, 0, 1);
      pass(x, left + 30);
      stands("14: no more than 30 behind", x, 0, 1);
      if (left + 31 < 1000) {
        pass(x, left + 31);
        stands("14: 31 behind", x, 0, 0);
        due("14: behind three MOMENTS it stood", x.claimTold(3, 0, STANDS), 1);
        due("14: WEIGHT as ever", x.claimTold(4, 0, WEIGHT), 6);
      }
    }
  }

  private static void homeAgain() {
    WhoseHare x = land();
    x.moment(10, CROSSES, 1, 5, 1);
    x.moment(40, CROSSES, 1, 5, 2);
    stands("14: on another GROUND, 30 behind", x, 0, 1);
    pass(x, 41);
    stands("14: AWAY since 10, not since 40", x, 0, 0);
    x.moment(50, CROSSES, 1, 5, 0);
    stands("14: at HOME", x, 0, 1);
    pass(x, 90);
    stands("14: at HOME however long", x, 0, 1);
    x.moment(91, CROSSES, 1, 5, 2);
    stands("14: AWAY anew", x, 0, 1);
    pass(x, 121);
    stands("14: 30 behind 91", x, 0, 1);
    pass(x, 122);
    stands("14: 31 behind 91", x, 0, 0);
  }

  private static void homeLasts() {
    WhoseHare x = land();
    x.moment(1, LOST, 1, 4, 0);
    x.moment(2, LET_GO, 1, 4, 0);
    x.moment(3, GIVEN, 1, 4, 7);
    x.moment(4, KILLED, 1, 7, 0);
    pass(x, 999);
    claim("14: neither lost, let go, given nor ended by KILLED", x, 0, 5, 4, 1, 0, 0, 1, 6);
    due("15: the KEEPER's still", x.whoseIs(1, 5), 4);
  }

  private static void worthMost() {
    WhoseHare x = land();
    x.moment(1, SEEN, 0, 2, 0);
    x.moment(1, HELD, 1, 9, 0);
    due("15: of that BEAST's CLAIMS alone", x.whoseIs(0, 2), 2);
    due("16: by 1", x.why(0, 2), 1);
    x.moment(2, STARTED, 0, 0, 0);
    due("15: what is worth most", x.whoseIs(0, 3), 0);
    due("16: by 3", x.why(0, 3), 3);
    x.moment(2, SEEN, 0, 9, 0);
    due("15: not what comes last", x.whoseIs(0, 4), 0);
    x.moment(3, LOST, 0, 0, 0);
    due("15: of those that STAND", x.whoseIs(0, 5), 2);
    due("16: by 1", x.why(0, 5), 1);
    due("15: behind none nobody's", x.whoseIs(0, 0), -1);
    due("16: by none", x.why(0, 0), -1);
    due("15: 0's behind four still", x.whoseIs(0, 4), 0);
    due("15: the other's is 9's", x.whoseIs(1, 5), 9);
  }

  private static void likeOnes() {
    WhoseHare x = land();
    x.moment(1, SEEN, 0, 9, 0);
    x.moment(2, SEEN, 0, 0, 0);
    x.moment(3, SEEN, 0, 5, 0);
    for (int n = 1; n < 4; n++) {
      due("15: of like ones the first", x.whoseIs(0, n), 9);
      due("16: of like ones the first", x.why(0, n), 1);
    }
    x.moment(4, LOST, 0, 9, 0);
    due("15: of those that STAND the first", x.whoseIs(0, 4), 0);
    due("16: that is 2", x.why(0, 4), 2);
    int[] why = {-1, 1, 1, 1, 2};
    for (int n = 4; n >= 0; n--) {
      due("16: behind " + n + ", asked alone", x.why(0, n), why[n]);
    }
  }

  private static void worthNothing() {
    for (int worth = -1; worth < 3; worth++) {
      WhoseHare x = land();
      Checks.read(x, "worth " + worth + ";follow 1;");
      x.force(1);
      x.moment(1, HELD, 0, 0, 0);
      due("15: worth " + worth + ": more than 0 or nobody's", x.whoseIs(0, 1), worth > 0 ? 0 : -1);
      due("16: worth " + worth, x.why(0, 1), worth > 0 ? 1 : -1);
      due("18: worth " + worth, x.nobody(0), worth > 0 ? 1 : 2);
      due("14: it stands", x.claimTold(1, 1, STANDS), 1);
    }
  }

  private static void nobodys() {
    WhoseHare x = land();
    due("18: without MOMENTS, nobody's behind 0", x.nobody(0), 1);
    due("18: somebody's", x.nobody(1), 0);
    for (int m = 0; m < 32; m++) {
      x.moment(m, SEEN, 1, 4, 0);
    }
    due("18: behind 0 .. 32", x.nobody(0), 33);
    due("18: never", x.nobody(1), 0);
    x.undo();
    x.moment(31, SEEN, 0, 4, 0);
    due("18: but behind the last", x.nobody(0), 32);
    Checks.read(x, "worth 0;follow 1;");
    x.force(1);
    due("18: by another law", x.nobody(1), 33);
  }

  private static void places() {
    WhoseHare x = new WhoseHare();
    for (int g = 0; g < 8; g++) {
      x.ground(-1);
    }
    x.beast(7, -1);
    due("17: at first at HOME", x.where(0, 0, 0), 7);
    for (int g = 0; g < 8; g++) {
      x.moment(10 + g, CROSSES, 0, 0, g);
      due("17: where it is", x.where(0, g + 1, 0), g);
      due("17: AWAY since 10", x.where(0, g + 1, 1), 10);
      due("17: alive", x.where(0, g + 1, 2), 0);
    }
    x.moment(20, KILLED, 0, 0, 0);
    due("17: dead", x.where(0, 9, 2), 1);
    due("17: not behind eight", x.where(0, 8, 2), 0);
    due("17: on the last but HOME behind seven", x.where(0, 7, 0), 6);
    due("17: AWAY since 10, asked anew", x.where(0, 9, 1), 10);
    due("17: never behind none", x.where(0, 0, 1), 0);
  }

  private static void mostClaims() {
    WhoseHare x = new WhoseHare();
    x.ground(0);
    x.ground(9);
    for (int b = 0; b < 6; b++) {
      x.beast(0, b);
    }
    for (int m = 0; m < 32; m++) {
      x.moment(m, m % 2 == 0 ? CROSSES : TAKEN, 0, 5, 1 - m / 2 % 2);
    }
    due("13: 12 at first", x.claims(0), 12);
    due("13: and 32", x.claims(32), 44);
    due("14: the last one's SINCE", x.claimTold(32, 43, 3), 31);
    due("14: the last but one's", x.claimTold(32, 42, 0), 4);
    due("14: none behind it", x.claimTold(32, 44, 0), -5);
    due("14: nor at 43 ahead of it", x.claimTold(31, 43, 0), -5);
    due("16: by the first TAKEN", x.why(0, 32), 13);
    due("33: at place 49 lies the last", x.taken(49, 3), 5);
    due("15: so it is 5's", x.whoseIs(0, 32), 5);
    due("18: never nobody's", x.nobody(0), 0);
    due("20: 5's alone", x.may(0), 1 << 5);
    due("22: without any", x.least(0, 5), 0);
    due("23: 16 TAKEN, beside a HOME: 16 * 150 by 2465, above", x.share(0, 32, 5, 0), 480);
    due("23: below", x.share(0, 32, 5, 1), 493);
    due("24: no quarrel", x.quarrel(0), 0);
    due("25: TEXT 0", x.custom(0), 0);
  }
}
