/** Promises 20 to 25: what nobody saw, shares, quarrels, the custom. */
public final class UnseenTest {
  private static final Checks CHECKS = new Checks("UnseenTest");

  private UnseenTest() { }

  private static void due(String what, long got, long want) {
    CHECKS.due(what, got, want);
  }

  public static void main(String[] args) {
    ways();
    fewest();
    timeLeftOut();
    shares();
    noShares();
    quarrels();
    customs();
    refusals();
    CHECKS.end();
  }

  /** A wild beast on nobody's ground. */
  private static WhoseHare wild() {
    WhoseHare x = new WhoseHare();
    x.ground(-1);
    x.ground(1);
    x.beast(0, -1);
    return x;
  }

  private static void ways() {
    WhoseHare x = wild();
    due("20: nobody's alone", x.may(0), 1024);
    due("21: nothing", x.hangs(0), 0);
    x.moment(1, 0, 0, 3, 0);
    due("20: surely 3's", x.may(0), 8);
    x.unsure(0, 1);
    due("20: 3's or nobody's", x.may(0), 8 | 1024);
    due("21: on the only one", x.hangs(0), 1);
    x.moment(2, 3, 0, 9, 0);
    due("20: surely 9's", x.may(0), 512);
    due("21: nothing hangs on it", x.hangs(0), 0);
    x.unsure(1, 1);
    due("20: 3's, 9's, nobody's", x.may(0), 8 | 512 | 1024);
    due("21: bit 1 by order", x.hangs(0), 2);
    x.unsure(0, 0);
    due("20: 3's, 9's", x.may(0), 8 | 512);
    due("21: bit 0, as moment 1 is the only one", x.hangs(0), 1);
    x.moment(3, 8, 0, 9, 0);
    x.unsure(2, 1);
    due("20: 3's, 9's", x.may(0), 8 | 512);
    due("21: without LET GO it would be 9's", x.hangs(0), 2);
    due("15: unsure ones count otherwise", x.whoseIs(0, 3), 3);
    Checks.read(x, "worth 0;follow 1;");
    x.force(1);
    due("20: by another law nobody's", x.may(0), 1024);
    due("21: so nothing hangs", x.hangs(0), 0);
  }

  private static void fewest() {
    WhoseHare x = wild();
    x.moment(1, 3, 0, 1, 0);
    x.moment(2, 7, 0, 2, 0);
    x.moment(3, 7, 0, 2, 0);
    x.moment(4, 0, 0, 4, 0);
    x.moment(5, 3, 0, 5, 0);
    for (int m = 0; m < 5; m++) {
      x.unsure(m, 1);
    }
    due("22: it is 2's without any", x.least(0, 2), 0);
    due("22: 1's without both", x.least(0, 1), 0b110);
    due("22: 5's without three", x.least(0, 5), 0b111);
    due("22: 4's without four", x.least(0, 4), 0b10111);
    due("22: 0's in no way", x.least(0, 0), -1);
    x.unsure(1, 0);
    due("22: 1's in no way", x.least(0, 1), -1);
    x = wild();
    x.moment(1, 3, 0, 1, 0);
    x.moment(1, 9, 0, 1, 2);
    x.moment(1, 3, 0, 3, 0);
    x.moment(1, 8, 0, 1, 0);
    for (int m = 0; m < 4; m++) {
      x.unsure(m, 1);
    }
    due("22: it is 2's", x.least(0, 2), 0);
    due("22: 3's without 0", x.least(0, 3), 1);
    due("22: 1's without 1 and 3, fewer bits ahead of less", x.least(0, 1), 0b1010);
    x = wild();
    x.moment(1, 7, 0, 2, 0);
    x.moment(1, 4, 0, 2, 0);
    x.moment(1, 1, 0, 1, 0);
    x.moment(1, 8, 0, 2, 0);
    x.moment(1, 4, 0, 1, 0);
    for (int m = 0; m < 5; m++) {
      x.unsure(m, 1);
    }
    due("20: 1's, 2's, nobody's", x.may(0), 2 | 4 | 1024);
    due("22: 1's without 4", x.least(0, 1), 16);
    due("22: 2's without 3", x.least(0, 2), 8);
    due("21: on both", x.hangs(0), 24);
  }

  private static void timeLeftOut() {
    WhoseHare x = wild();
    x.beast(0, 6);
    x.moment(10, 5, 1, 0, 1);
    x.moment(41, 0, 0, 0, 0);
    x.unsure(1, 1);
    due("20: NOW is 10 or 41", x.may(1), 2 | 64);
    due("22: 6's without the last", x.least(1, 6), 1);
    x.unsure(0, 1);
    due("21: either alone", x.hangs(1), 3);
  }

  private static void shares() {
    WhoseHare x = wild();
    x.moment(1, 1, 0, 3, 0);
    x.moment(1, 1, 0, 4, 0);
    x.moment(1, 0, 0, 3, 0);
    x.moment(1, 0, 0, 5, 0);
    long[][] due = {{0, 1}, {0, 1}, {0, 1}, {1, 2}, {3, 8}, {1, 8}, {0, 1}};
    for (int p = 0; p < 7; p++) {
      due("23: above of " + p, x.share(0, 4, p, 0), due[p][0]);
      due("23: below of " + p, x.share(0, 4, p, 1), due[p][1]);
    }
    due("23: all of 3's behind 1", x.share(0, 1, 3, 0), 1);
    due("23: by 1", x.share(0, 1, 3, 1), 1);
    due("23: none behind 0", x.share(0, 0, 3, 0), 0);
    due("23: by 1", x.share(0, 0, 3, 1), 1);
    x.moment(2, 4, 0, 3, 0);
    due("23: what doesn't stand doesn't count", x.share(0, 5, 4, 0) * 10 + x.share(0, 5, 4, 1), 34);
  }

  private static void noShares() {
    WhoseHare x = wild();
    int[][] bad = {{-1, 0, 0, 0}, {1, 0, 0, 0}, {0, -1, 0, 0}, {0, 1, 0, 0}, {0, 0, -1, 0}, {0, 0, 10, 0},
        {0, 0, 0, -1}, {0, 0, 0, 2}};
    for (int[] c : bad) {
      due("23: NO", x.share(c[0], c[1], c[2], c[3]), WhoseHare.NO);
    }
  }

  private static void quarrels() {
    WhoseHare x = wild();
    due("24: about nobody's not", x.quarrel(0), 0);
    x.moment(1, 0, 0, 3, 0);
    x.moment(1, 0, 0, 3, 0);
    due("24: one's own claims don't", x.quarrel(0), 0);
    x.moment(1, 0, 0, 4, 0);
    due("24: behind 3", x.quarrel(0), 1);
    x.moment(1, 1, 0, 4, 0);
    due("24: not behind 4: worth more", x.quarrel(0), 1);
    x.moment(1, 1, 0, 4, 0);
    x.moment(1, 1, 0, 5, 0);
    due("24: behind 6 again", x.quarrel(0), 2);
    x.moment(2, 4, 0, 5, 0);
    due("24: what doesn't stand doesn't", x.quarrel(0), 2);
    x.beast(0, -1);
    due("24: nor claims of another beast", x.quarrel(1), 0);
    Checks.read(x, "worth 0;follow 1;");
    x.force(1);
    due("24: worth 0 isn't", x.quarrel(0), 0);
    Checks.read(x, "worth who = 4;follow 1;");
    x.force(2);
    due("24: 4's alone", x.quarrel(0), 0);
    Checks.read(x, "worth 1;follow 1;");
    x.force(3);
    due("24: all alike", x.quarrel(0), 5);
  }

  private static void customs() {
    WhoseHare x = wild();
    due("25: text 0 is the only one", x.custom(0), 0);
    x.moment(1, 0, 0, 3, 0);
    x.moment(1, 0, 0, 4, 0);
    due("24: once", x.quarrel(0), 1);
    Checks.read(x, "worth 1;follow 1;");
    due("25: of like ones the first", x.custom(0), 0);
    Checks.read(x, "worth 0;follow 1;");
    due("25: no quarrel", x.custom(0), 2);
    Checks.read(x, "worth who=4;follow 1;");
    due("25: nobody's less often", x.custom(0), 3);
    Checks.read(x, "worth who=3;follow 1;");
    due("25: still less often", x.custom(0), 4);
    Checks.read(x, "worth who;follow 1;");
    due("25: as often as that: the first", x.custom(0), 4);
    due("25: nothing changes", x.count(5), 0);
    due("25: nor what is worth what", x.claimTold(2, 0, 7), 10);
    due("24: nor how often they quarrel", x.quarrel(0), 1);
    x.force(2);
    due("25: whichever the law is", x.custom(0), 4);
    due("15: that law stays", x.whoseIs(0, 2), -1);
    due("12: so it does", x.follow(0, 0, 0), 1);
    x.beast(1, -1);
    due("25: of another beast", x.custom(1), 0);
  }

  private static void refusals() {
    WhoseHare x = wild();
    int[] beasts = {-1, 1};
    for (int b : beasts) {
      due("20: beast", x.may(b), -5);
      due("21: beast", x.hangs(b), -5);
      due("22: beast", x.least(b, 0), -5);
      due("24: beast", x.quarrel(b), -5);
      due("25: beast", x.custom(b), -5);
    }
    due("22: one 10", x.least(0, 10), -5);
    due("22: one -1", x.least(0, -1), -5);
    due("22: in no way", x.least(0, 9), -1);
  }
}
