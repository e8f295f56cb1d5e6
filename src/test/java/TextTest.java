/** Promises 9 to 12: the tape, texts and their faults, the law, who may follow. */
public final class TextTest {
  private static final Checks CHECKS = new Checks("TextTest");

  private TextTest() { }

  private static void due(String what, long got, long want) {
    CHECKS.due(what, got, want);
  }

  public static void main(String[] args) {
    feeding();
    reading();
    faults();
    tooDeep();
    anew();
    forcing();
    working();
    namesOfClaims();
    following();
    CHECKS.end();
  }

  private static void feeding() {
    WhoseHare x = new WhoseHare();
    due("9: n 0", x.feed(1, 0), WhoseHare.BAD);
    due("9: n 9", x.feed(1, 9), WhoseHare.BAD);
    due("9: n -1", x.feed(1, -1), WhoseHare.BAD);
    for (int k = 1; k < 20; k++) {
      due("9: 8 more", x.feed(-1L, 8), 8 * k);
    }
    due("9: 5 more", x.feed(-1L, 5), 157);
    due("9: 4 are too many", x.feed(-1L, 4), WhoseHare.FULL);
    due("9: BAD ahead of FULL", x.feed(-1L, 9), WhoseHare.BAD);
    due("9: 3 more", x.feed(-1L, 3), 160);
    due("9: not one more", x.feed(-1L, 1), WhoseHare.FULL);
    due("10: the first byte is the fault", x.text(), -100);
    due("10: the tape is empty", x.count(6), 0);
    due("9: from 0 on again", x.feed(0x6162636465L, 2), 2);
    due("10: the two lowest came: a word", x.text(), -100);
    x.feed(0x776f727468203120L, 8);
    x.feed(0x4142433b20666f6cL, 5);
    x.feed(0x6c6f772031203bL, 7);
    due("10: the highest came first", x.text(), 1);
  }

  private static void reading() {
    WhoseHare x = new WhoseHare();
    String[] right = {"worth 0;follow 0;", "\n worth(kind)-- 1<since*2=0 ;follow 1 ;",
        "worth weight or not ground and tame;follow not not who;  \n ", "worth 1-1-1;follow(((((1)))));",
        "worth 9999+0007 ;follow -(-(-1))=not0;"};
    due("10: text 1", Checks.read(x, right[0]), 1);
    due("10: of two < or = the second can't stand there", Checks.read(x, right[1]), -100 - 25);
    due("10: text 2", Checks.read(x, right[2]), 2);
    due("10: text 3", Checks.read(x, right[3]), 3);
    due("10: a not behind = can't stand there", Checks.read(x, right[4]), -100 - 33);
    due("10: text 4", Checks.read(x, "worth 5kind;follow 1;"), -100 - 7);
    due("10: text 4", Checks.read(x, "worth not5and not kind;follow 1;"), 4);
    due("10: text 5", Checks.read(x, "worth\n1\n;\nfollow\n1\n;"), 5);
    Checks.feedAll(x, "?");
    due("10: FULL ahead of the FAULT", x.text(), WhoseHare.FULL);
    due("10: then the tape stays", x.count(6), 1);
    due("26: six texts", x.count(4), 6);
  }

  private static void fault(String text, int place) {
    WhoseHare x = new WhoseHare();
    due("10: <" + text + ">", Checks.read(x, text), place < 0 ? 1 : -100 - place);
    due("10: the tape is empty behind <" + text + ">", x.count(6), 0);
    due("10: texts behind <" + text + ">", x.count(4), place < 0 ? 2 : 1);
  }

  private static void faults() {
    due("10: nothing", new WhoseHare().text(), -100);
    fault("  ", 2);
    fault("worth", 5);
    fault("worth ", 6);
    fault("worth 1", 7);
    fault("worth 1;", 8);
    fault("worth 1; follow 1", 17);
    fault("worth 1; follow 1;", -1);
    fault("worth 1; follow 1; ;", 19);
    fault("worth 1; follow 1; worth", 19);
    fault("worth 1 follow 1;", 8);
    fault("follow 1; worth 1;", 0);
    fault("worth1;follow1;", -1);
    fault("worthy 1; follow 1;", 0);
    fault("worthkind;follow 1;", 0);
    fault("Worth 1; follow 1;", 0);
    fault("worth Kind; follow 1;", 6);
    fault("worth kinds; follow 1;", 6);
    fault("worth kin; follow 1;", 6);
    fault("worth kind who; follow 1;", 11);
    fault("worth whoz; follow 1;", 6);
    fault("worth awho; follow 1;", 6);
    fault("worth who follow; follow 1;", 10);
    fault("worth 1 2; follow 1;", 8);
    fault("worth 12345; follow 1;", 6);
    fault("worth 00001; follow 1;", 6);
    fault("worth 99999999999999999999; follow 1;", 6);
    fault("worth 0001; follow 1;", -1);
    fault("worth 1 >2; follow 1;", 8);
    fault("worth\t1; follow 1;", 5);
    fault("worth 1;\rfollow 1;", 8);
    fault("worth 1;\u00e9follow 1;", 8);
    fault("worth ;follow 1;", 6);
    fault("worth or 1;follow 1;", 6);
    fault("worth 1 or;follow 1;", 10);
    fault("worth 1 and or 1;follow 1;", 12);
    fault("worth 1 not 1;follow 1;", 8);
    fault("worth 1 + not 1;follow 1;", 10);
    fault("worth 1 + (not 1);follow 1;", -1);
    fault("worth - not 1;follow 1;", 8);
    fault("worth 1 < not 1;follow 1;", 10);
    fault("worth 1 < 2 < 3;follow 1;", 12);
    fault("worth 1 = 2 = 3;follow 1;", 12);
    fault("worth (1 < 2) < 3;follow 1;", -1);
    fault("worth 1 < 2 and 2 = 3 or 3 < 4;follow 1;", -1);
    fault("worth + 1;follow 1;", 6);
    fault("worth * 1;follow 1;", 6);
    fault("worth 1 * - 1 - - 1;follow 1;", -1);
    fault("worth (1;follow 1;", 8);
    fault("worth 1);follow 1;", 7);
    fault("worth ();follow 1;", 7);
    fault("worth follow;follow 1;", 6);
    fault("worth 1;follow worth;", 15);
  }

  private static void tooDeep() {
    fault("worth (((((1)))));follow 1;", -1);
    fault("worth ((((((1))))));follow 1;", 11);
    fault("worth not not not not not 1;follow 1;", -1);
    fault("worth not not not not not not 1;follow 1;", 26);
    fault("worth -----1;follow 1;", -1);
    fault("worth ------1;follow 1;", 11);
    fault("worth not(not(-1));follow 1;", -1);
    fault("worth not(not(-(1)));follow 1;", 15);
    fault("worth not(not(-1)-(1)*-1);follow 1;", -1);
    fault("worth not(not(--1));follow 1;", 15);
    fault("worth (((((1))))) + (((((1)))));follow (((((1)))));", -1);
    fault("worth -----1 - -----1;follow 1;", -1);
    fault("worth not not not not not 1 < 2 or not 1;follow 1;", -1);
    fault("worth not not not not 1 < -1;follow 1;", -1);
    fault("worth not not not not 1 < --1;follow 1;", 27);
    fault("worth not not not not not 1 < -1;follow 1;", 30);
    fault("worth not not not not not 1 - 1;follow 1;", -1);
    fault("worth (((((1 - 1)))));follow 1;", -1);
    fault("worth (((((1 - -1)))));follow 1;", 15);
    fault("worth (((((not 1)))));follow 1;", 11);
  }

  /** What was read ahead of a text, rightly or not, leaves nothing behind. */
  private static void anew() {
    WhoseHare x = new WhoseHare();
    due("10: a fault behind five (", Checks.read(x, "worth (((((;"), -100 - 11);
    due("10: five can be open anew", Checks.read(x, "worth (((((1)))));follow -----1;"), 1);
    StringBuilder most = new StringBuilder("worth 1");
    while (most.length() < 147) {
      most.append("+1");
    }
    most.append(";follow 1; ");
    due("10: a text of 158 bytes", Checks.read(x, most.toString()), 2);
    due("10: one of 160 bytes", Checks.read(x, most + "\n "), 3);
    due("10: broken at the end", Checks.read(x, most + " ("), -100 - 159);
    due("10: one more", Checks.read(x, most.toString()), 4);
    x.ground(0);
    x.beast(0, -1);
    for (int t = 2; t < 5; t++) {
      x.force(t);
      due("10: each is worth 71", x.claimTold(0, 0, 7), 71);
      due("10: each lets follow", x.follow(0, 0, 0), 1);
    }
  }

  private static void forcing() {
    WhoseHare x = new WhoseHare();
    due("11: 1, of one", x.force(1), WhoseHare.BAD);
    due("11: -1", x.force(-1), WhoseHare.BAD);
    Checks.read(x, "worth 1;follow 1;");
    due("11: 1", x.force(1), 0);
    due("11: 0", x.force(0), 1);
    due("11: 0 again", x.force(0), 0);
    due("26: the law", x.count(5), 0);
  }

  /** A beast of a ground of 4's, its claim: kind 4, since 3 as of moment 1, weight 4, ground 1, tame 0, who 4. */
  private static WhoseHare oneClaim() {
    WhoseHare x = new WhoseHare();
    x.ground(-1);
    x.ground(4);
    x.beast(0, -1);
    x.moment(2, 5, 0, 9, 1);
    x.moment(5, 8, 0, 9, 0);
    return x;
  }

  private static void worth(String e, int want) {
    WhoseHare x = oneClaim();
    Checks.read(x, "worth " + e + ";follow 1;");
    x.force(1);
    due("10: worth " + e, x.claimTold(2, 0, 7), want);
  }

  private static void working() {
    worth("kind", 4);
    worth("since", 3);
    worth("weight", 4);
    worth("ground", 1);
    worth("tame", 0);
    worth("who", 4);
    worth("1 + 2 * 3", 7);
    worth("(1 + 2) * 3", 9);
    worth("10 - 3 - 2", 5);
    worth("10 - 3 + 2", 9);
    worth("2 * 3 - - 1", 7);
    worth("-2 * -3", 6);
    worth("-2 * 3", 0);
    worth("5 - 6", 0);
    worth("9999", 9999);
    worth("9999 + 1", 9999);
    worth("2 < 3", 1);
    worth("3 < 3", 0);
    worth("-1 < 0", 1);
    worth("3 = 3", 1);
    worth("3 = 4", 0);
    worth("1 + 1 < 1 + 2", 1);
    worth("7 or 0", 1);
    worth("0 or 0", 0);
    worth("7 and 2", 1);
    worth("7 and 0", 0);
    worth("1 and 2", 1);
    worth("2 and 1", 1);
    worth("0 and 7", 0);
    worth("0 or 2", 1);
    worth("0 and 0 or 1", 1);
    worth("1 or 1 and 0", 1);
    worth("7", 7);
    worth("not 7", 0);
    worth("not 0", 1);
    worth("not not 7", 1);
    worth("not 1 < 0", 1);
    worth("not 0 and 0", 0);
    worth("(0 - 1) and 1", 1);
    worth("(0 - 1 or 0) + 5", 6);
    worth("9999 * 9999 * 43", 9999);
    worth("9999 * 9999 * 43 - 417 * 9999 - 3100", 64);
    worth("9999 * 9999 * 22", 0);
    worth("(9999 * 9999 * 43 < 0) + 1", 1);
    worth("(9999 * 9999 * 22 < 0) + 1", 2);
    worth("since*100+who", 304);
  }

  private static void namesOfClaims() {
    WhoseHare x = new WhoseHare();
    x.ground(3);
    x.ground(5);
    x.beast(0, 7);
    x.moment(4, 2, 0, 5, 6);
    x.moment(10, 5, 0, 0, 1);
    String[] names = {"kind", "since", "weight", "ground", "tame", "who"};
    int[][] due = {{5, 10, 6, 0, 1, 7}, {4, 10, 4, 0, 1, 3}, {2, 6, 9, 1, 1, 5}, {4, 0, 4, 1, 1, 5}};
    for (int k = 0; k < 5; k++) {
      Checks.read(x, "worth " + names[k] + ";follow 1;");
      x.force(k + 1);
      for (int i = 0; i < 4; i++) {
        due("14: " + names[k] + " of claim " + i, x.claimTold(2, i, 7), due[i][k]);
      }
    }
  }

  private static void follow(String e, int p, int g, int b, int want) {
    WhoseHare x = new WhoseHare();
    x.ground(-1);
    x.ground(0);
    x.ground(6);
    x.beast(0, -1);
    x.beast(2, 3);
    Checks.read(x, "worth 1;follow " + e + ";");
    x.force(1);
    due("12: " + p + ", " + g + ", " + b + " by " + e, x.follow(p, g, b), want);
  }

  private static void following() {
    WhoseHare x = new WhoseHare();
    x.ground(0);
    x.beast(0, -1);
    due("12: by text 0", x.follow(9, 0, 0), 1);
    int[][] bad = {{-1, 0, 0}, {10, 0, 0}, {0, -1, 0}, {0, 1, 0}, {0, 0, -1}, {0, 0, 1}};
    for (int[] c : bad) {
      due("12: BAD", x.follow(c[0], c[1], c[2]), WhoseHare.BAD);
    }
    follow("kind = -1", 0, 0, 0, 1);
    follow("since", 0, 0, 0, 0);
    follow("not since", 0, 0, 0, 1);
    follow("weight", 3, 0, 0, 0);
    follow("weight = 1", 3, 1, 0, 1);
    follow("weight = 7", 3, 2, 0, 1);
    follow("ground", 6, 2, 0, 1);
    follow("ground", 5, 2, 0, 0);
    follow("ground", 0, 0, 0, 0);
    follow("ground = 1", 0, 1, 0, 1);
    follow("tame", 0, 0, 0, 0);
    follow("tame = 1", 0, 0, 1, 1);
    follow("who = 8", 8, 0, 0, 1);
    follow("who", 0, 0, 0, 0);
    follow("0 - 5", 0, 0, 0, 1);
    follow("0", 0, 0, 0, 0);
  }
}
