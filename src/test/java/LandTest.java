/** Promises 1 to 8, 26 to 28: grounds, beasts, moments, what is counted, images. */
public final class LandTest {
  private static final Checks CHECKS = new Checks("LandTest");

  private LandTest() { }

  private static void due(String what, long got, long want) {
    CHECKS.due(what, got, want);
  }

  public static void main(String[] args) {
    newObject();
    grounds();
    beasts();
    moments();
    undoing();
    unsureOnes();
    told();
    counts();
    images();
    CHECKS.end();
  }

  private static void newObject() {
    WhoseHare x = new WhoseHare();
    int[] due = {0, 0, 0, 0, 1, 0, 0};
    for (int w = 0; w < 7; w++) {
      due("1: count(" + w + ") of a new object", x.count(w), due[w]);
    }
    for (int s = 0; s < 4; s++) {
      due("1: sheet " + s + " is missing", x.cell(s, 0, 0), -11);
    }
    due("1: claims(0)", x.claims(0), 0);
  }

  private static void grounds() {
    WhoseHare x = new WhoseHare();
    due("2: ground(-2)", x.ground(-2), WhoseHare.BAD);
    due("2: ground(10)", x.ground(10), WhoseHare.BAD);
    due("3: owns(0, 1) of none", x.owns(0, 1), -5);
    for (int g = 0; g < 8; g++) {
      due("2: ground " + g, x.ground(g == 7 ? -1 : g + 2), g);
    }
    due("2: a ninth", x.ground(0), WhoseHare.FULL);
    due("2: BAD ahead of FULL", x.ground(10), WhoseHare.BAD);
    due("3: owns(7, 9)", x.owns(7, 9), -1);
    due("3: owns(7, -1)", x.owns(7, -1), 9);
    due("3: owns(6, 6)", x.owns(6, 6), 8);
    due("3: owns(8, 0)", x.owns(8, 0), -5);
    due("3: owns(-1, 0)", x.owns(-1, 0), -5);
    due("3: owns(8, 10): ground first", x.owns(8, 10), -5);
    due("3: owns(0, 10)", x.owns(0, 10), -7);
    due("3: owns(0, -2)", x.owns(0, -2), -7);
    due("3: a refusal changed nothing", x.owns(0, 0), 2);
  }

  private static void beasts() {
    WhoseHare x = new WhoseHare();
    due("4: no ground", x.beast(0, 0), WhoseHare.NONE);
    x.ground(3);
    due("4: NONE ahead of BAD", x.beast(1, 10), WhoseHare.NONE);
    due("4: ground -1", x.beast(-1, 0), WhoseHare.NONE);
    due("4: keeper 10", x.beast(0, 10), WhoseHare.BAD);
    due("4: keeper -2", x.beast(0, -2), WhoseHare.BAD);
    for (int b = 0; b < 6; b++) {
      due("4: beast " + b, x.beast(0, b % 2 == 0 ? -1 : 9), b);
    }
    due("4: a seventh", x.beast(0, 0), WhoseHare.FULL);
    due("4: BAD ahead of FULL", x.beast(0, 10), WhoseHare.BAD);
    due("4: NONE ahead of FULL", x.beast(1, 0), WhoseHare.NONE);
    due("4: its home", x.where(5, 0, 0), 0);
    due("4: a tame one is its keeper's", x.whoseIs(5, 0), 9);
    due("4: a wild one is the ground's", x.whoseIs(4, 0), 3);
  }

  private static void moments() {
    WhoseHare x = new WhoseHare();
    due("5: no beast", x.moment(-1, 0, 0, 0, 0), WhoseHare.NONE);
    x.ground(0);
    x.ground(1);
    x.beast(0, -1);
    int[][] bad = {{-1, 0, 0, 0, 0}, {1000, 0, 0, 0, 0}, {0, -1, 0, 0, 0}, {0, 10, 0, 0, 0}, {0, 0, 0, -1, 0},
        {0, 0, 0, 10, 0}, {0, 0, 0, 0, -1}, {0, 0, 0, 0, 10}, {0, 5, 0, 0, 2}, {0, 5, 0, 0, -1}, {0, 9, 0, 0, 10}};
    for (int[] m : bad) {
      due("5: BAD", x.moment(m[0], m[1], m[2], m[3], m[4]), WhoseHare.BAD);
      due("5: NONE ahead of BAD", x.moment(m[0], m[1], 1, m[3], m[4]), WhoseHare.NONE);
    }
    for (int m = 0; m < 32; m++) {
      due("5: moment " + m, x.moment(m < 31 ? m / 2 : 999, m % 10, 0, m % 10, m % 10 == 5 ? 1 : 9), m);
    }
    due("5: a 33rd", x.moment(999, 0, 0, 0, 0), WhoseHare.FULL);
    due("5: BAD ahead of FULL: earlier", x.moment(998, 0, 0, 0, 0), WhoseHare.BAD);
    due("5: NONE ahead of FULL", x.moment(999, 0, 1, 0, 0), WhoseHare.NONE);
    due("26: MOMENTS", x.count(2), 32);
  }

  private static void undoing() {
    WhoseHare x = new WhoseHare();
    due("6: none", x.undo(), WhoseHare.STATE);
    x.ground(0);
    x.beast(0, -1);
    x.moment(5, 3, 0, 2, 0);
    x.moment(9, 8, 0, 2, 0);
    x.unsure(1, 1);
    due("6: LET GO was not", x.undo(), 8);
    due("6: it is held again", x.whoseIs(0, 1), 2);
    due("6: the time of the last one goes with it", x.moment(5, 6, 0, 1, 0), 1);
    due("6: so does that it was unsure", x.momentTold(1, 5), 0);
    due("6: KILLED was not", x.undo(), 6);
    due("6: HELD was not", x.undo(), 3);
    due("6: none again", x.undo(), WhoseHare.STATE);
    due("6: from 0 on again", x.moment(0, 0, 0, 0, 0), 0);
  }

  private static void unsureOnes() {
    WhoseHare x = new WhoseHare();
    due("7: none", x.unsure(0, 2), WhoseHare.NONE);
    x.ground(0);
    x.beast(0, -1);
    for (int m = 0; m < 8; m++) {
      x.moment(m, 0, 0, m, 0);
    }
    due("7: -1", x.unsure(-1, 1), WhoseHare.NONE);
    due("7: 8", x.unsure(8, 0), WhoseHare.NONE);
    due("7: is -1", x.unsure(0, -1), WhoseHare.BAD);
    due("7: is 2", x.unsure(0, 2), WhoseHare.BAD);
    for (int m = 0; m < 6; m++) {
      due("7: " + m, x.unsure(m, 1), 0);
    }
    due("7: 6 are", x.unsure(6, 1), WhoseHare.FULL);
    due("7: BAD ahead of FULL", x.unsure(6, 2), WhoseHare.BAD);
    due("7: one that is already", x.unsure(5, 1), 1);
    due("7: not, while 6 are", x.unsure(7, 0), 0);
    due("7: no more", x.unsure(3, 0), 1);
    due("7: room again", x.unsure(6, 1), 0);
    due("26: UNSURE ones", x.count(3), 6);
  }

  private static void told() {
    WhoseHare x = new WhoseHare();
    due("8: none", x.momentTold(0, 6), -5);
    x.ground(0);
    x.beast(0, -1);
    x.beast(0, -1);
    x.moment(0, 0, 0, 0, 0);
    x.moment(77, 2, 1, 4, 8);
    x.unsure(1, 1);
    int[] due = {77, 2, 1, 4, 8, 1};
    for (int w = 0; w < 6; w++) {
      due("8: what " + w, x.momentTold(1, w), due[w]);
      due("8: what " + w + " of the other", x.momentTold(0, w), 0);
    }
    due("8: what 6", x.momentTold(1, 6), -7);
    due("8: what -1", x.momentTold(1, -1), -7);
    due("8: moment 2", x.momentTold(2, 0), -5);
    due("8: moment -1", x.momentTold(-1, 0), -5);
  }

  private static void counts() {
    WhoseHare x = new WhoseHare();
    x.ground(0);
    x.ground(0);
    x.ground(-1);
    x.beast(2, -1);
    x.beast(2, 3);
    x.moment(0, 0, 0, 0, 0);
    Checks.read(x, "worth 1;follow 1;");
    x.force(1);
    x.feed(7, 5);
    int[] due = {3, 2, 1, 0, 2, 1, 5};
    for (int w = 0; w < 7; w++) {
      due("26: count(" + w + ")", x.count(w), due[w]);
    }
    due("26: count(-1)", x.count(-1), WhoseHare.BAD);
    due("26: count(7)", x.count(7), WhoseHare.BAD);
  }

  private static void images() {
    WhoseHare x = new WhoseHare();
    due("28: there is none", x.back(), WhoseHare.STATE);
    x.ground(1);
    x.ground(-1);
    x.beast(0, -1);
    for (int m = 0; m < 5; m++) {
      x.moment(m, 0, 0, m, 0);
    }
    x.unsure(1, 1);
    x.unsure(4, 1);
    Checks.read(x, "worth 3;follow 1;");
    due("27: 5 moments", x.image(), 5);
    x.owns(0, 7);
    x.owns(1, 8);
    x.ground(9);
    x.unsure(1, 0);
    x.unsure(2, 1);
    x.force(1);
    x.beast(2, 5);
    x.moment(8, 3, 0, 5, 0);
    x.moment(9, 3, 0, 6, 0);
    x.unsure(6, 1);
    due("28: 5 again", x.back(), 5);
    due("28: 7's ground is 1's again", x.owns(0, 1), 1);
    due("28: 8's ground is nobody's again", x.owns(1, -1), -1);
    due("28: a ground that came since stays", x.owns(2, 9), 9);
    due("28: a beast that came since stays", x.whoseIs(1, 0), 5);
    int[] unsure = {0, 1, 0, 0, 1};
    for (int m = 0; m < 5; m++) {
      due("28: unsure " + m, x.momentTold(m, 5), unsure[m]);
    }
    due("28: the law", x.count(5), 0);
    due("28: 45 by the law, not 3", x.claimTold(0, 0, 7), 45);
    due("28: no moment 5", x.momentTold(5, 0), -5);
    due("28: a new one isn't unsure", x.moment(8, 0, 0, 0, 0) + 10L * x.momentTold(5, 5), 5);
    x.undo();
    x.undo();
    x.undo();
    due("28: those undone don't come back", x.back(), 3);
    due("28: unsure ones by their numbers", x.count(3), 1);
    x.moment(20, 0, 0, 9, 0);
    x.moment(20, 0, 0, 9, 0);
    x.moment(20, 0, 0, 9, 0);
    due("28: others came in their place", x.back(), 5);
    due("28: these are unsure then, by number", x.momentTold(4, 5), 1);
    due("28: they stay themselves", x.momentTold(4, 3), 9);
    x.force(1);
    due("27: anew", x.image(), 5);
    x.force(0);
    x.back();
    due("28: that image's law", x.count(5), 1);
    x.undo();
    due("27: the newest counts: 4", x.image(), 4);
    x.moment(30, 0, 0, 0, 0);
    due("28: 4", x.back(), 4);
  }
}
