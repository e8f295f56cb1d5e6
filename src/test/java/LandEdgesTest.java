/**
 * Promises 1 to 8 and 26 to 28, and what the terms tell of people, grounds, beasts, moments and images: the least and
 * the greatest that is taken, what is empty, what is full. RefusalTest has what isn't taken.
 */
public final class LandEdgesTest {
  private static final Checks CHECKS = new Checks("LandEdgesTest");
  private static final int BAD = -2, STATE = -3, FULL = -4;

  private LandEdgesTest() { }

  private static void due(String what, long got, long want) {
    CHECKS.due(what, got, want);
  }

  public static void main(String[] args) {
    newObject();
    objectsApart();
    grounds();
    owners();
    homes();
    keepers();
    mostBeasts();
    times();
    timesBehindOthers();
    whats();
    numbers();
    mostMoments();
    undoing();
    unsureOnes();
    unsureAndUndone();
    told();
    counts();
    emptyImage();
    fullImage();
    wholeImage();
    newestImage();
    imageOfGrounds();
    imageOfUnsure();
    imageOfMoments();
    notInTheImage();
    asking();
    lastCalls();
    CHECKS.end();
  }

  private static WhoseHare land(int... owners) {
    WhoseHare x = new WhoseHare();
    for (int p : owners) {
      x.ground(p);
    }
    return x;
  }

  /** Wild beasts on ground 0, which is nobody's. */
  private static WhoseHare wild(int beasts) {
    WhoseHare x = land(-1);
    for (int b = 0; b < beasts; b++) {
      x.beast(0, -1);
    }
    return x;
  }

  private static WhoseHare wildSeen(int moments) {
    WhoseHare x = wild(1);
    for (int m = 0; m < moments; m++) {
      x.moment(m, 0, 0, m % 10, 0);
    }
    return x;
  }

  private static void newObject() {
    WhoseHare x = new WhoseHare();
    due("1: no GROUNDS", x.count(0), 0);
    due("1: no GROUND 0", x.owns(0, 0), -5);
    due("1: no BEASTS", x.count(1), 0);
    due("1: no BEAST 0", x.whoseIs(0, 0), -5);
    due("1: no MOMENTS", x.count(2), 0);
    due("1: no MOMENT 0", x.momentTold(0, 0), -5);
    due("1: none is UNSURE", x.count(3), 0);
    due("1: TEXT 0 alone", x.count(4), 1);
    due("1: it is THE LAW", x.count(5), 0);
    due("1: THE TAPE is empty", x.count(6), 0);
    due("1: no CLAIMS", x.claims(0), 0);
    due("1: no IMAGE", x.back(), STATE);
    for (int s = 0; s < 4; s++) {
      due("1: SHEET " + s + " is missing", x.tell(s, 0, 0, 0), -11);
    }
  }

  private static void objectsApart() {
    WhoseHare x = new WhoseHare();
    Recipes.SOME.make(x);
    WhoseHare y = new WhoseHare();
    for (int w = 0; w < 7; w++) {
      due("1: a new one beside another: count(" + w + ")", y.count(w), w == 4 ? 1 : 0);
    }
    due("1: no IMAGE of another", y.back(), STATE);
    due("1: no SHEET of another", y.cell(0, 0, 0), -11);
    y.ground(7);
    due("1: nor is the other's ground its", x.owns(0, 0), 0);
  }

  private static void grounds() {
    for (int p : new int[] {-1, 0, 9}) {
      WhoseHare x = new WhoseHare();
      due("2: ground(" + p + ")", x.ground(p), 0);
      due("2: whose it is", x.owns(0, 5), p);
    }
    WhoseHare x = new WhoseHare();
    for (int g = 0; g < 8; g++) {
      due("2: eight, by numbers from 0 on", x.ground(9), g);
    }
    due("2: eight at most", x.ground(9), FULL);
    due("2: still eight", x.count(0), 8);
    due("2: the eighth is one", x.owns(7, 0), 9);
    due("2: there is no ninth", x.owns(8, 0), -5);
  }

  private static void owners() {
    WhoseHare x = land(-1, 0, 9);
    due("3: the first one: it was nobody's", x.owns(0, 0), -1);
    due("3: the least that is taken, -1", x.owns(0, -1), 0);
    due("3: the greatest, 9", x.owns(0, 9), -1);
    due("3: the same one's again", x.owns(0, 9), 9);
    due("3: the last one", x.owns(2, 0), 9);
    due("3: the one between is as it was", x.owns(1, 1), 0);
    WhoseHare y = land(0, 1, 2, 3, 4, 5, 6, 7);
    due("3: of eight the last", y.owns(7, -1), 7);
    due("3: and the first", y.owns(0, -1), 0);
  }

  private static void homes() {
    WhoseHare x = land(5);
    due("4: on the only GROUND", x.beast(0, -1), 0);
    x = land(0, 1, 2, 3, 4, 5, 6, 7);
    due("4: on the first of eight", x.beast(0, -1), 0);
    due("4: on the last of eight", x.beast(7, -1), 1);
    due("4: it is there at first", x.where(0, 0, 0), 0);
    due("4: and there", x.where(1, 0, 0), 7);
    due("4: its HOME", x.taken(1, 6), 7);
  }

  private static void keepers() {
    int[] keepers = {-1, 0, 9};
    for (int p : keepers) {
      WhoseHare x = land(-1);
      due("4: KEEPER " + p, x.beast(0, p), 0);
      due("4: wild is -1 alone", x.claims(0), p == -1 ? 0 : 1);
      due("4: whose it is", x.whoseIs(0, 0), p);
      Checks.read(x, "worth tame+1;follow tame;");
      x.force(1);
      due("4: tame, if it isn't wild", x.follow(0, 0, 0), p == -1 ? 0 : 1);
    }
  }

  private static void mostBeasts() {
    WhoseHare x = land(3);
    for (int b = 0; b < 6; b++) {
      due("4: six, by numbers from 0 on", x.beast(0, 9), b);
    }
    due("4: six at most", x.beast(0, 9), FULL);
    due("4: still six", x.count(1), 6);
    due("4: the sixth is one", x.whoseIs(5, 0), 9);
    due("4: there is no seventh", x.whoseIs(6, 0), -5);
    due("4: nor claims of it", x.claims(0), 12);
  }

  private static void times() {
    WhoseHare x = wild(1);
    due("5: TIME 0 is the least", x.moment(0, 0, 0, 0, 0), 0);
    due("5: 0 again is not ahead of it", x.moment(0, 0, 0, 0, 0), 1);
    due("5: TIME 999 is the greatest", x.moment(999, 0, 0, 0, 0), 2);
    due("5: 999 again", x.moment(999, 0, 0, 0, 0), 3);
    due("5: 998 is ahead of the last one's", x.moment(998, 0, 0, 0, 0), BAD);
    due("5: 1000 is too much", x.moment(1000, 0, 0, 0, 0), BAD);
    x = wild(1);
    due("5: the first at 999", x.moment(999, 0, 0, 0, 0), 0);
  }

  private static void timesBehindOthers() {
    WhoseHare x = wild(2);
    x.moment(5, 0, 0, 0, 0);
    x.moment(8, 0, 1, 0, 0);
    due("5: 7 is ahead of the last one's, though of another BEAST", x.moment(7, 0, 0, 0, 0), BAD);
    due("5: a refused one is no last one", x.moment(99, 10, 0, 0, 0), BAD);
    due("5: 8 is taken", x.moment(8, 0, 0, 0, 0), 2);
    x.undo();
    x.undo();
    due("6: 5 is the last one's then: 4 is ahead of it", x.moment(4, 0, 0, 0, 0), BAD);
    due("6: 5 is not", x.moment(5, 0, 0, 0, 0), 1);
    x.undo();
    x.undo();
    due("6: 0 is taken without any", x.moment(0, 0, 0, 0, 0), 0);
    x.undo();
    due("6: -1 is not", x.moment(-1, 0, 0, 0, 0), BAD);
    x.moment(3, 0, 0, 0, 0);
    x.image();
    x.moment(60, 0, 0, 0, 0);
    x.back();
    due("28: 3 is the last one's behind back(): 2 is ahead of it", x.moment(2, 0, 0, 0, 0), BAD);
    due("28: 3 is not", x.moment(3, 0, 0, 0, 0), 1);
  }

  private static void whats() {
    WhoseHare x = wild(6);
    for (int w = 0; w < 10; w++) {
      due("5: WHAT " + w, x.moment(0, w, w % 6, 9 - w, 0), w);
      due("5: it is told", x.momentTold(w, 1), w);
      due("5: BY one, 0 .. 9", x.momentTold(w, 3), 9 - w);
    }
    due("5: the last BEAST", x.moment(0, 0, 5, 0, 0), 10);
  }

  private static void numbers() {
    for (int w = 0; w < 10; w++) {
      if (w != 5) {
        WhoseHare x = wild(1);
        due("5: NUMBER 0 of " + w, x.moment(0, w, 0, 0, 0), 0);
        due("5: NUMBER 9 of " + w + ", whatever GROUNDS there are", x.moment(0, w, 0, 0, 9), 1);
        due("5: it is told", x.momentTold(1, 4), 9);
      }
    }
    WhoseHare x = wild(1);
    due("5: GROUND 0 of one", x.moment(0, 5, 0, 0, 0), 0);
    due("5: GROUND 1 isn't yet", x.moment(0, 5, 0, 0, 1), BAD);
    x.ground(3);
    due("5: it is now", x.moment(0, 5, 0, 0, 1), 1);
    WhoseHare y = land(0, 1, 2, 3, 4, 5, 6, 7);
    y.beast(0, -1);
    due("5: GROUND 7 of eight", y.moment(0, 5, 0, 0, 7), 0);
    due("5: GROUND 8 is none, though a NUMBER", y.moment(0, 5, 0, 0, 8), BAD);
    due("5: nor is 9", y.moment(0, 5, 0, 0, 9), BAD);
  }

  private static void mostMoments() {
    WhoseHare x = wild(1);
    for (int m = 0; m < 32; m++) {
      due("5: 32, by numbers from 0 on", x.moment(m, 0, 0, 0, 0), m);
    }
    due("5: 32 at most", x.moment(31, 0, 0, 0, 0), FULL);
    due("5: still 32", x.count(2), 32);
    due("5: the last one is as it was", x.momentTold(31, 0), 31);
    due("13: behind all 32", x.claims(32), 32);
    due("6: undo() makes room", x.undo(), 0);
    due("5: for one", x.moment(31, 1, 0, 0, 0), 31);
    due("5: not for two", x.moment(31, 1, 0, 0, 0), FULL);
  }

  private static void undoing() {
    for (int w = 0; w < 10; w++) {
      WhoseHare x = wild(1);
      x.moment(0, (w + 1) % 10, 0, 0, 0);
      x.moment(0, w, 0, 0, 0);
      due("6: WHAT it was", x.undo(), w);
      due("6: the last alone", x.count(2), 1);
      due("6: then the one ahead of it", x.undo(), (w + 1) % 10);
      due("6: none is left", x.undo(), STATE);
    }
  }

  private static void unsureOnes() {
    WhoseHare x = wildSeen(8);
    due("7: it was not", x.unsure(0, 1), 0);
    due("7: it was, and is", x.unsure(0, 1), 1);
    due("7: it counts once", x.count(3), 1);
    due("7: it was", x.unsure(0, 0), 1);
    due("7: it was not, nor is", x.unsure(0, 0), 0);
    due("7: none is", x.count(3), 0);
    for (int m = 2; m < 8; m++) {
      due("7: the " + (m - 1) + "th, the last MOMENT, too", x.unsure(m, 1), 0);
    }
    due("7: six at most", x.unsure(0, 1), FULL);
    due("7: still six", x.count(3), 6);
    due("7: that one isn't", x.momentTold(0, 5), 0);
    due("7: 0 isn't FULL: it was not", x.unsure(1, 0), 0);
    due("7: 0 isn't FULL: it was", x.unsure(7, 0), 1);
    due("7: there is room for one", x.unsure(1, 1), 0);
    due("7: not for two", x.unsure(7, 1), FULL);
  }

  private static void unsureAndUndone() {
    WhoseHare x = wildSeen(7);
    for (int m = 1; m < 7; m++) {
      x.unsure(m, 1);
    }
    due("7: a seventh", x.unsure(0, 1), FULL);
    x.undo();
    due("6: five are", x.count(3), 5);
    due("5: a new one isn't UNSURE", x.moment(6, 0, 0, 6, 0) * 10 + x.momentTold(6, 5), 60);
    due("7: so there is room", x.unsure(0, 1), 0);
    due("7: for one", x.unsure(6, 1), FULL);
  }

  private static void told() {
    WhoseHare x = wild(6);
    x.moment(0, 0, 0, 0, 0);
    x.moment(999, 9, 5, 9, 9);
    x.unsure(1, 1);
    int[] greatest = {999, 9, 5, 9, 9, 1};
    for (int w = 0; w < 6; w++) {
      due("8: the least of what " + w, x.momentTold(0, w), 0);
      due("8: the greatest of what " + w, x.momentTold(1, w), greatest[w]);
    }
    x.undo();
    due("8: the one that was not", x.momentTold(1, 0), -5);
  }

  private static void counts() {
    WhoseHare x = new WhoseHare();
    Recipes.MOST.make(x);
    int[] most = {8, 6, 32, 6, 6, 5, 160};
    for (int w = 0; w < 7; w++) {
      due("26: the most of " + w, x.count(w), most[w]);
    }
  }

  private static void emptyImage() {
    WhoseHare x = new WhoseHare();
    due("27: of no MOMENTS", x.image(), 0);
    due("28: none", x.back(), 0);
    x.ground(4);
    x.beast(0, -1);
    x.moment(3, 0, 0, 0, 0);
    x.unsure(0, 1);
    due("28: none again", x.back(), 0);
    due("28: none is there", x.momentTold(0, 0), -5);
    due("28: nor UNSURE", x.count(3), 0);
    due("28: the GROUND that came since stays as it is", x.owns(0, 6), 4);
    due("28: THE IMAGE stays", x.back(), 0);
    due("28: so does what became of the GROUND", x.owns(0, 6), 6);
  }

  private static void fullImage() {
    WhoseHare x = new WhoseHare();
    Recipes.MOST.make(x);
    due("27: of 32 MOMENTS", x.image(), 32);
    due("28: all 32", x.back(), 32);
    x.undo();
    due("28: no more than there were ahead of this", x.back(), 31);
    for (int m = 30; m >= 0; m--) {
      x.undo();
    }
    due("28: not one", x.back(), 0);
    due("28: none is UNSURE then", x.count(3), 0);
  }

  /** Each of eight GROUNDS, and the last of 32 MOMENTS, are as in it again. */
  private static void wholeImage() {
    WhoseHare x = land(7, 6, 5, 4, 3, 2, 1, 0);
    x.beast(0, -1);
    for (int m = 0; m < 32; m++) {
      x.moment(m, 0, 0, m % 10, 0);
    }
    for (int m = 26; m < 32; m++) {
      x.unsure(m, 1);
    }
    due("27: of 32 MOMENTS", x.image(), 32);
    for (int g = 0; g < 8; g++) {
      x.owns(g, 9);
    }
    for (int m = 26; m < 32; m++) {
      x.unsure(m, 0);
      x.unsure(m - 20, 1);
    }
    due("28: all 32", x.back(), 32);
    for (int g = 0; g < 8; g++) {
      due("28: whose GROUND " + g + " is", x.owns(g, -1), 7 - g);
    }
    for (int m = 0; m < 32; m++) {
      due("28: UNSURE " + m, x.momentTold(m, 5), m < 26 ? 0 : 1);
    }
  }

  private static void newestImage() {
    WhoseHare x = wildSeen(3);
    due("27: three", x.image(), 3);
    x.moment(9, 0, 0, 0, 0);
    due("27: the newer one", x.image(), 4);
    x.moment(9, 0, 0, 0, 0);
    due("28: is the one", x.back(), 4);
    x.undo();
    x.undo();
    due("27: a newer one of fewer", x.image(), 2);
    x.moment(9, 0, 0, 0, 0);
    due("28: is the one", x.back(), 2);
  }

  private static void imageOfGrounds() {
    WhoseHare x = land(-1, 0, 9);
    x.image();
    x.owns(0, 9);
    x.owns(1, -1);
    x.owns(2, 0);
    x.ground(5);
    x.owns(3, 6);
    due("28: back", x.back(), 0);
    due("28: nobody's again", x.owns(0, 1), -1);
    due("28: 0's again", x.owns(1, 1), 0);
    due("28: 9's again", x.owns(2, 1), 9);
    due("28: the one that came since as it is", x.owns(3, 1), 6);
    due("28: it is one still", x.count(0), 4);
  }

  private static void imageOfUnsure() {
    WhoseHare x = wildSeen(8);
    for (int m = 0; m < 6; m++) {
      x.unsure(m, 1);
    }
    x.image();
    for (int m = 0; m < 6; m++) {
      x.unsure(m, 0);
    }
    x.unsure(6, 1);
    x.unsure(7, 1);
    due("28: back", x.back(), 8);
    for (int m = 0; m < 8; m++) {
      due("28: UNSURE " + m, x.momentTold(m, 5), m < 6 ? 1 : 0);
    }
    due("7: six are again", x.unsure(7, 1), FULL);
    x.undo();
    x.undo();
    x.undo();
    x.moment(20, 3, 0, 7, 0);
    due("5: a new one isn't", x.momentTold(5, 5), 0);
    due("28: back", x.back(), 6);
    due("28: by their numbers: that one is", x.momentTold(5, 5), 1);
    x.undo();
    x.undo();
    due("28: back with four", x.back(), 4);
    due("28: four are", x.count(3), 4);
    x.moment(30, 0, 0, 0, 0);
    due("28: one that comes then isn't", x.momentTold(4, 5), 0);
    due("28: four are", x.count(3), 4);
  }

  private static void imageOfMoments() {
    WhoseHare x = wildSeen(4);
    x.image();
    x.undo();
    x.undo();
    x.moment(50, 3, 0, 8, 0);
    due("28: three, as there were", x.back(), 3);
    due("28: the new one stays itself", x.momentTold(2, 0), 50);
    due("28: those that were undone don't come back", x.momentTold(3, 0), -5);
    x.moment(51, 3, 0, 8, 0);
    x.moment(52, 3, 0, 8, 0);
    due("28: four, as it keeps", x.back(), 4);
    due("28: of those that are there", x.momentTold(3, 0), 51);
    due("28: the last is gone", x.momentTold(4, 0), -5);
  }

  private static void notInTheImage() {
    WhoseHare x = wildSeen(1);
    x.sheet(0, 2, 2);
    x.feed('w', 1);
    x.image();
    x.beast(0, 5);
    x.sheet(0, 1, 3);
    x.feed('o', 1);
    x.feed('?', 1);
    x.back();
    due("28: a BEAST that came since stays", x.whoseIs(1, 0), 5);
    due("28: so does a SHEET", x.cell(0, 2, 0), 1);
    due("28: so does THE TAPE", x.count(6), 3);
    x.text();
    Checks.read(x, "worth 7;follow 1;");
    x.force(1);
    x.image();
    Checks.read(x, "worth 8;follow 1;");
    x.force(2);
    x.back();
    due("28: THE LAW is the one that it keeps", x.count(5), 1);
    due("28: by it", x.claimTold(1, 1, 7), 7);
    due("28: a TEXT that came since stays", x.count(4), 3);
    due("28: it can be forced", x.force(2), 1);
  }

  /** None of the calls that only ask changes anything. */
  private static void asking() {
    Recipes.unchanged(CHECKS, "asking", Recipes.SOME, x -> {
      long sum = x.count(0) + x.momentTold(0, 0) + x.follow(1, 1, 1) + x.claims(0) + x.claimTold(1, 0, 7);
      sum += x.whoseIs(0, 2) + x.why(0, 2) + x.where(0, 2, 0) + x.nobody(1) + x.may(0) + x.hangs(1) + x.least(0, 1);
      sum += x.share(0, 2, 3, 1) + x.quarrel(1) + x.custom(0) + x.taken(0, 6) + x.taken(6, 5) + x.tell(2, 2, 0, 0);
      return sum - sum;
    }, 0);
    Recipes.unchanged(CHECKS, "custom", Recipes.MOST, x -> x.custom(1) * 0, 0);
    Recipes.unchanged(CHECKS, "judge", x -> {
      Recipes.SOME.make(x);
      x.sheet(3, 0, 9);
    }, x -> x.judge(0, 3), 0);
  }

  /** An object is used for at most 512 calls: the 512th is answered as the first. */
  private static void lastCalls() {
    WhoseHare x = wild(1);
    for (int call = 3; call <= 511; call++) {
      int m = call % 2 == 1 ? x.moment(1, 3, 0, 6, 0) : x.undo();
      due("call " + call, m, call % 2 == 1 ? 0 : 3);
    }
    due("call 512", x.whoseIs(0, 1), 6);
  }
}
