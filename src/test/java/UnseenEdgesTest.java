/**
 * Promises 20 to 25 and what the terms tell of unsure moments, shares and quarrels: none and six of them, the first and
 * the last bit, like ones, nothing by nothing. RefusalTest has what isn't taken.
 */
public final class UnseenEdgesTest {
  private static final Checks CHECKS = new Checks("UnseenEdgesTest");
  private static final int SEEN = 0, STARTED = 1, HELD = 3, LOST = 4, CROSSES = 5, KILLED = 6, TAKEN = 7, LET_GO = 8;
  private static final int NOBODYS = 1 << 10;

  private UnseenEdgesTest() { }

  private static void due(String what, long got, long want) {
    CHECKS.due(what, got, want);
  }

  public static void main(String[] args) {
    sureOnes();
    eachOne();
    sixUnsure();
    allSixHang();
    bitsByOrder();
    leftOutOfNow();
    leftOutOfAll();
    eachAlone();
    towardsNobody();
    fewest();
    likeBits();
    inNoWay();
    sharesOfNone();
    lowestTerms();
    sharesOfThose();
    greatShares();
    sharesBehind();
    justAsMuch();
    quarrelsOfOthers();
    quarrelsAtTheBound();
    quarrelsCounted();
    customOfOne();
    customByQuarrels();
    customByNobody();
    customChangesNothing();
    CHECKS.end();
  }

  /** A wild beast on nobody's ground. */
  private static WhoseHare wild() {
    WhoseHare x = new WhoseHare();
    x.ground(-1);
    x.ground(1);
    x.beast(0, -1);
    return x;
  }

  private static void law(WhoseHare x, String worth) {
    due("10: a TEXT", Checks.read(x, "worth " + worth + ";follow 1;"), x.count(4) - 1);
    x.force(x.count(4) - 1);
  }

  private static void sureOnes() {
    WhoseHare x = wild();
    due("20: without MOMENTS nobody's", x.may(0), NOBODYS);
    due("21: nothing hangs", x.hangs(0), 0);
    due("22: in no way", x.least(0, 0), -1);
    x.moment(1, HELD, 0, 4, 0);
    due("20: without UNSURE ones whose it is", x.may(0), 1 << 4);
    due("21: nothing hangs", x.hangs(0), 0);
    due("22: without any", x.least(0, 4), 0);
    due("22: in no way another one's", x.least(0, 5), -1);
  }

  private static void eachOne() {
    for (int p = 0; p < 10; p++) {
      WhoseHare x = wild();
      x.moment(1, SEEN, 0, p, 0);
      due("20: bit " + p, x.may(0), 1 << p);
      due("22: it is " + p + "'s", x.least(0, p), 0);
      x.unsure(0, 1);
      due("20: bit " + p + " or nobody's, bit 10", x.may(0), 1 << p | NOBODYS);
      due("21: on bit 0", x.hangs(0), 1);
      due("22: " + p + "'s without none", x.least(0, p), 0);
      for (int other = 0; other < 10; other++) {
        if (other != p) {
          due("22: " + other + "'s in no way", x.least(0, other), -1);
        }
      }
    }
  }

  /** Each of six is worth more than those behind it. */
  private static void sixUnsure() {
    WhoseHare x = wild();
    law(x, "10-who");
    for (int m = 0; m < 6; m++) {
      x.moment(m, SEEN, 0, m, 0);
      x.unsure(m, 1);
    }
    due("20: 64 ways: 0's .. 5's, nobody's", x.may(0), 63 | NOBODYS);
    due("21: on the first alone", x.hangs(0), 1);
    for (int p = 0; p < 6; p++) {
      due("22: " + p + "'s without those ahead", x.least(0, p), (1 << p) - 1);
    }
    x.moment(9, SEEN, 0, 9, 0);
    due("20: never nobody's", x.may(0), 63 | 1 << 9);
    due("22: 9's without all six", x.least(0, 9), 63);
    due("15: UNSURE ones count else", x.whoseIs(0, 7), 0);
  }

  /** Held by 0, then given from each to the next: it hangs on all of them. */
  private static void allSixHang() {
    WhoseHare x = wild();
    x.moment(1, HELD, 0, 0, 0);
    x.unsure(0, 1);
    for (int p = 0; p < 5; p++) {
      x.moment(1, 9, 0, p, p + 1);
      x.unsure(p + 1, 1);
    }
    due("21: on all six", x.hangs(0), 63);
    due("20: 0's .. 5's, nobody's", x.may(0), 63 | NOBODYS);
    due("22: it is 5's", x.least(0, 5), 0);
    for (int p = 0; p < 5; p++) {
      due("22: " + p + "'s without that it was given on", x.least(0, p), 2 << p);
    }
    x.moment(1, 3, 0, 9, 0);
    due("21: 9's only without the first", x.hangs(0), 63);
    due("22: 9's without the first", x.least(0, 9), 1);
  }

  private static void bitsByOrder() {
    WhoseHare x = wild();
    for (int m = 0; m < 32; m++) {
      x.moment(m, LOST, 0, 8, 0);
    }
    x.undo();
    x.undo();
    x.moment(40, HELD, 0, 6, 0);
    x.moment(41, TAKEN, 0, 7, 0);
    x.unsure(31, 1);
    x.unsure(30, 1);
    x.unsure(0, 1);
    due("21: by the order of MOMENTS: the third of three", x.hangs(0), 4);
    due("22: 6's without it", x.least(0, 6), 4);
    x.unsure(0, 0);
    due("21: the second of two", x.hangs(0), 2);
    x.unsure(30, 0);
    due("21: the only one", x.hangs(0), 1);
    x.unsure(30, 1);
    for (int m = 26; m < 30; m++) {
      x.unsure(m, 1);
    }
    due("21: the sixth of six", x.hangs(0), 32);
    due("22: 6's without the sixth", x.least(0, 6), 32);
    due("20: 6's, 7's, nobody's", x.may(0), 1 << 6 | 1 << 7 | NOBODYS);
  }

  private static void leftOutOfNow() {
    WhoseHare x = wild();
    x.beast(0, 3);
    x.moment(10, CROSSES, 1, 0, 1);
    x.moment(40, SEEN, 0, 2, 0);
    x.moment(41, LOST, 0, 9, 0);
    x.unsure(2, 1);
    due("15: NOW is 31 behind", x.whoseIs(1, 3), 1);
    due("20: or 30, as the last is left out", x.may(1), 1 << 1 | 1 << 3);
    due("21: on that", x.hangs(1), 1);
    due("22: 3's without it", x.least(1, 3), 1);
    due("20: the other doesn't hang on it", x.may(0), 1 << 2);
  }

  private static void leftOutOfAll() {
    WhoseHare x = wild();
    x.moment(1, SEEN, 0, 2, 0);
    x.moment(2, KILLED, 0, 3, 0);
    x.moment(3, SEEN, 0, 3, 0);
    x.unsure(1, 1);
    due("20: not killed, it is seen", x.may(0), NOBODYS | 1 << 2);
    due("22: 2's then", x.least(0, 2), 1);
    due("22: 3's in no way", x.least(0, 3), -1);
    WhoseHare y = wild();
    y.moment(1, CROSSES, 0, 2, 1);
    y.moment(2, CROSSES, 0, 2, 0);
    y.unsure(1, 1);
    due("20: it stayed or went", y.may(0), NOBODYS | 1 << 1);
    y.unsure(0, 1);
    due("20: it may never have been there", y.may(0), NOBODYS | 1 << 1);
    due("22: 1's without the second", y.least(0, 1), 2);
  }

  private static void eachAlone() {
    WhoseHare x = wild();
    x.moment(1, SEEN, 0, 2, 0);
    x.moment(1, SEEN, 0, 2, 0);
    x.moment(1, SEEN, 0, 5, 0);
    x.unsure(0, 1);
    x.unsure(1, 1);
    due("21: without each alone it is 2's still", x.hangs(0), 0);
    due("22: 5's without both", x.least(0, 5), 3);
    due("20: 2's or 5's", x.may(0), 1 << 2 | 1 << 5);
    x.unsure(1, 0);
    due("22: 5's in no way", x.least(0, 5), -1);
    due("20: 2's", x.may(0), 1 << 2);
  }

  private static void towardsNobody() {
    WhoseHare x = wild();
    x.moment(1, HELD, 0, 2, 0);
    x.moment(2, LET_GO, 0, 2, 0);
    x.unsure(1, 1);
    due("15: it is nobody's", x.whoseIs(0, 2), -1);
    due("21: without that it would be 2's", x.hangs(0), 1);
    x.unsure(0, 1);
    due("21: without the other nobody's as it is", x.hangs(0), 2);
    x.unsure(1, 0);
    due("21: nobody's with and without", x.hangs(0), 0);
    x.undo();
    due("21: 2's, or nobody's without", x.hangs(0), 1);
  }

  private static void fewest() {
    WhoseHare x = wild();
    law(x, "10-who");
    int[] by = {3, 3, 1, 7};
    for (int m = 0; m < 4; m++) {
      x.moment(m, SEEN, 0, by[m], 0);
      x.unsure(m, 1);
    }
    due("22: it is 1's", x.least(0, 1), 0);
    due("22: 3's without one", x.least(0, 3), 4);
    due("22: 7's without three", x.least(0, 7), 7);
    WhoseHare y = wild();
    y.moment(1, SEEN, 0, 7, 0);
    y.moment(1, SEEN, 0, 7, 0);
    y.moment(1, STARTED, 0, 9, 0);
    y.moment(1, LOST, 0, 9, 0);
    y.moment(1, SEEN, 0, 9, 0);
    y.unsure(0, 1);
    y.unsure(1, 1);
    due("22: 9's without both", y.least(0, 9), 3);
    y.unsure(3, 1);
    due("22: or without the third: the fewest, not the least as bits", y.least(0, 9), 4);
  }

  private static void likeBits() {
    WhoseHare x = wild();
    law(x, "kind*(who=8)+(who=6)*2");
    x.moment(1, SEEN, 0, 6, 0);
    x.moment(1, LOST, 0, 6, 0);
    x.moment(1, HELD, 0, 8, 0);
    x.moment(1, LET_GO, 0, 8, 0);
    x.moment(1, LOST, 0, 6, 0);
    x.unsure(3, 1);
    x.unsure(2, 1);
    due("22: 8's without the second", x.least(0, 8), 2);
    due("22: nor without both", x.may(0), NOBODYS | 1 << 8);
    WhoseHare y = wild();
    y.moment(1, SEEN, 0, 6, 0);
    y.moment(1, HELD, 0, 7, 0);
    y.moment(1, 9, 0, 7, 6);
    y.moment(1, 9, 0, 6, 7);
    y.moment(1, 9, 0, 7, 6);
    y.moment(1, 9, 0, 6, 7);
    for (int m = 2; m < 6; m++) {
      y.unsure(m, 1);
    }
    due("22: it is 7's", y.least(0, 7), 0);
    due("22: 6's without the last: the only one alone", y.least(0, 6), 8);
    y.moment(1, 9, 0, 7, 6);
    due("15: it is 6's", y.whoseIs(0, 7), 6);
    due("22: 7's in no way: the last isn't UNSURE", y.least(0, 7), -1);
    WhoseHare z = wild();
    law(z, "(who=7)*2+(who=9)");
    z.moment(1, HELD, 0, 6, 0);
    z.moment(1, 9, 0, 6, 5);
    z.moment(1, 9, 0, 5, 7);
    z.moment(1, SEEN, 0, 9, 0);
    z.unsure(2, 1);
    due("22: 9's without the one that is UNSURE", z.least(0, 9), 1);
    z.unsure(1, 1);
    due("22: without the first or the second: the least as bits", z.least(0, 9), 1);
    z.unsure(2, 0);
    due("22: without the first", z.least(0, 9), 1);
  }

  private static void inNoWay() {
    WhoseHare x = wild();
    Recipes.MOST.make(x);
    long ways = x.may(1);
    for (int p = 0; p < 10; p++) {
      due("22: in no way is just what may() leaves out: " + p, x.least(1, p) < 0 ? 0 : 1, ways >> p & 1);
    }
  }

  private static void share(String what, WhoseHare x, int p, long above, long below) {
    int n = x.count(2);
    due("23: above, " + what, x.share(0, n, p, 0), above);
    due("23: below, " + what, x.share(0, n, p, 1), below);
  }

  private static void sharesOfNone() {
    WhoseHare x = wild();
    for (int p = 0; p < 10; p++) {
      share("no CLAIMS", x, p, 0, 1);
    }
    x.moment(1, SEEN, 0, 0, 0);
    share("of the only one", x, 0, 1, 1);
    share("of one that has none", x, 9, 0, 1);
    x.moment(2, LOST, 0, 0, 0);
    share("none STANDS", x, 0, 0, 1);
    x.moment(2, SEEN, 0, 0, 0);
    law(x, "0");
    share("none is worth anything", x, 0, 0, 1);
    law(x, "0-weight");
    share("below 0 the bound, 0", x, 0, 0, 1);
    law(x, "1");
    share("1 by 1", x, 0, 1, 1);
  }

  private static void lowestTerms() {
    WhoseHare x = wild();
    law(x, "who");
    x.moment(1, SEEN, 0, 6, 0);
    x.moment(1, SEEN, 0, 9, 0);
    share("6 by 15", x, 6, 2, 5);
    share("9 by 15", x, 9, 3, 5);
    x.moment(1, SEEN, 0, 1, 0);
    share("6 by 16", x, 6, 3, 8);
    share("9 by 16", x, 9, 9, 16);
    share("1 by 16", x, 1, 1, 16);
    share("0 by 16", x, 0, 0, 1);
    x.moment(1, SEEN, 0, 8, 0);
    share("8 by 24", x, 8, 1, 3);
    x.moment(1, SEEN, 0, 6, 0);
    share("both of 6's: 12 by 30", x, 6, 2, 5);
    x.moment(1, SEEN, 0, 0, 0);
    share("one that is worth nothing", x, 0, 0, 1);
  }

  private static void sharesOfThose() {
    WhoseHare x = wild();
    x.beast(0, 2);
    x.moment(1, SEEN, 0, 2, 0);
    x.moment(1, SEEN, 0, 3, 0);
    x.moment(1, SEEN, 1, 3, 0);
    share("of the BEAST alone", x, 2, 1, 2);
    due("23: of the other", x.share(1, 3, 2, 0) * 10 + x.share(1, 3, 2, 1), 67);
    x.moment(2, LOST, 0, 3, 0);
    share("of those that STAND", x, 2, 1, 1);
    share("of those that STAND", x, 3, 0, 1);
    share("not by whose it is", x, 9, 0, 1);
  }

  private static void greatShares() {
    WhoseHare x = wild();
    law(x, "9999");
    for (int m = 0; m < 32; m++) {
      x.moment(m, HELD, 0, m < 31 ? 4 : 5, 0);
    }
    share("31 of 32", x, 4, 31, 32);
    share("1 of 32", x, 5, 1, 32);
    law(x, "9999-(who=5)");
    share("9998 by 31 * 9999 + 9998", x, 5, 9998, 319967);
    share("31 * 9999 by that", x, 4, 309969, 319967);
  }

  private static void sharesBehind() {
    WhoseHare x = wild();
    x.moment(1, SEEN, 0, 3, 0);
    x.moment(1, SEEN, 0, 4, 0);
    x.moment(1, SEEN, 0, 4, 0);
    int[] below = {1, 1, 2, 3};
    for (int n = 0; n < 4; n++) {
      due("23: behind " + n + ", above", x.share(0, n, 3, 0), n == 0 ? 0 : 1);
      due("23: behind " + n + ", below", x.share(0, n, 3, 1), below[n]);
    }
  }

  private static void justAsMuch() {
    for (int more = -1; more < 2; more++) {
      WhoseHare x = wild();
      law(x, "5+(who=7)*" + (more < 0 ? "-1" : more));
      x.moment(1, SEEN, 0, 6, 0);
      x.moment(1, SEEN, 0, 7, 0);
      due("24: worth " + more + " more", x.quarrel(0), more == 0 ? 1 : 0);
      due("15: whose it is", x.whoseIs(0, 2), more > 0 ? 7 : 6);
    }
  }

  private static void quarrelsOfOthers() {
    WhoseHare x = wild();
    x.moment(1, SEEN, 0, 6, 0);
    x.moment(1, SEEN, 0, 6, 0);
    due("24: one doesn't quarrel with oneself", x.quarrel(0), 0);
    x.moment(1, SEEN, 0, 7, 0);
    due("24: two do, though a like one stands between", x.quarrel(0), 1);
    x.moment(1, STARTED, 0, 6, 0);
    due("24: not by the one that is worth less", x.quarrel(0), 1);
    x.moment(1, STARTED, 0, 7, 0);
    due("24: again", x.quarrel(0), 2);
    x.moment(2, LOST, 0, 7, 0);
    due("24: not by one that doesn't STAND", x.quarrel(0), 2);
    x.beast(0, 6);
    due("24: not by one of another BEAST", x.quarrel(1), 0);
    x.moment(2, STARTED, 0, 8, 0);
    x.moment(2, STARTED, 0, 9, 0);
    due("24: three, four, behind each once", x.quarrel(0), 4);
    due("24: the other not", x.quarrel(1), 0);
  }

  private static void quarrelsAtTheBound() {
    WhoseHare x = wild();
    x.moment(1, SEEN, 0, 6, 0);
    x.moment(1, SEEN, 0, 7, 0);
    law(x, "9999+who");
    due("24: both are worth the bound", x.quarrel(0), 1);
    law(x, "9992+who");
    due("24: 9998, 9999", x.quarrel(0), 0);
    law(x, "0-who");
    due("24: both are worth 0: nobody's, no quarrel", x.quarrel(0), 0);
    law(x, "0");
    due("24: nobody's, no quarrel", x.quarrel(0), 0);
  }

  private static void quarrelsCounted() {
    WhoseHare x = new WhoseHare();
    x.ground(6);
    x.beast(0, 7);
    law(x, "1");
    due("24: behind 0, without MOMENTS", x.quarrel(0), 1);
    for (int m = 0; m < 32; m++) {
      x.moment(m, LOST, 0, 9, 0);
    }
    due("24: behind 0 .. 32", x.quarrel(0), 33);
    x.undo();
    x.moment(31, TAKEN, 0, 7, 0);
    due("24: but behind the last, as it is held", x.quarrel(0), 32);
    law(x, "weight");
    due("24: by another law never", x.quarrel(0), 0);
  }

  private static void customOfOne() {
    WhoseHare x = wild();
    due("25: TEXT 0 alone", x.custom(0), 0);
    law(x, "weight");
    law(x, "1");
    due("25: all alike: the first", x.custom(0), 0);
    due("25: whichever is THE LAW", x.count(5), 2);
  }

  private static void customByQuarrels() {
    WhoseHare x = wild();
    x.moment(1, SEEN, 0, 6, 0);
    x.moment(1, SEEN, 0, 7, 0);
    x.moment(1, STARTED, 0, 7, 0);
    due("24: by TEXT 0 once", x.quarrel(0), 1);
    due("25: TEXT 0 alone", x.custom(0), 0);
    law(x, "1");
    due("24: by it twice", x.quarrel(0), 2);
    due("25: the other less often", x.custom(0), 0);
    law(x, "0");
    due("25: never, though nobody's behind all", x.custom(0), 2);
    law(x, "0");
    due("25: of like ones the first", x.custom(0), 2);
    law(x, "1");
    law(x, "who");
    due("25: the last of six: never, and nobody's once", x.custom(0), 5);
  }

  private static void customByNobody() {
    WhoseHare x = wild();
    x.moment(1, SEEN, 0, 6, 0);
    x.moment(1, SEEN, 0, 7, 0);
    law(x, "who=7");
    due("18: nobody's twice", x.nobody(0), 2);
    due("25: no quarrel", x.custom(0), 1);
    law(x, "who=6");
    due("18: nobody's once", x.nobody(0), 1);
    due("25: nobody's less often", x.custom(0), 2);
    law(x, "who");
    due("18: nobody's once, too", x.nobody(0), 1);
    due("25: of like ones the first", x.custom(0), 2);
    law(x, "who=7");
    due("25: nobody's more often", x.custom(0), 2);
  }

  private static void customChangesNothing() {
    Recipes.unchanged(CHECKS, "25: custom", Recipes.SOME, x -> x.custom(1) - x.custom(1), 0);
    WhoseHare x = wild();
    x.moment(1, SEEN, 0, 6, 0);
    law(x, "3");
    law(x, "2");
    x.force(1);
    due("14: worth 3", x.claimTold(1, 0, 7), 3);
    due("25: TEXT 0", x.custom(0), 0);
    due("14: worth 3 still", x.claimTold(1, 0, 7), 3);
    due("26: THE LAW stays", x.count(5), 1);
  }
}
