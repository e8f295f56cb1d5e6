/**
 * Promises 9 to 12 and what the terms tell of texts, faults and the law: how long, how deep, how many, what wraps
 * around, where a fault is. RefusalTest has what isn't taken.
 */
public final class TextEdgesTest {
  private static final Checks CHECKS = new Checks("TextEdgesTest");
  private static final int FULL = -4, FAULT = -100;

  private TextEdgesTest() { }

  private static void due(String what, long got, long want) {
    CHECKS.due(what, got, want);
  }

  public static void main(String[] args) {
    feeding();
    fullTape();
    emptyTape();
    bytes();
    bytesBehindWords();
    blanks();
    words();
    longestTokens();
    numbers();
    tokensAtTheEnd();
    whatStoodThere();
    tooEarly();
    tooMuch();
    grammar();
    fiveOpen();
    openTillTheyEnd();
    mostTexts();
    longTexts();
    textZero();
    forcing();
    wrapping();
    truths();
    bounds();
    namesOfClaims();
    mayFollow();
    namesOfFollow();
    CHECKS.end();
  }

  /** A text is read on a new object: 1, or -100 less the place of its fault; then the tape is empty. */
  private static void reads(String promise, String text, int answer) {
    WhoseHare x = new WhoseHare();
    due(promise + ": <" + text + ">", Checks.read(x, text), answer);
    due("10: THE TAPE is empty behind <" + text + ">", x.count(6), 0);
    due("10: TEXTS behind <" + text + ">", x.count(4), answer > 0 ? 2 : 1);
    due("10: THE LAW stays", x.count(5), 0);
  }

  private static void fault(String text, int place) {
    reads("10: FAULT", text, FAULT - place);
  }

  private static void right(String text) {
    reads("10", text, 1);
  }

  private static void feeding() {
    String text = "worth 1;follow 1;";
    for (int n = 1; n < 9; n++) {
      WhoseHare x = new WhoseHare();
      int fed = 0;
      while (fed < text.length()) {
        int now = Math.min(n, text.length() - fed);
        // what stands above the n lowest bytes does not come
        long w = n % 2 == 0 ? -1L : 0x4142434445464748L;
        for (int k = 0; k < now; k++) {
          w = w << 8 | text.charAt(fed + k);
        }
        fed += now;
        due("9: by " + n + ", how many it has", x.feed(w, now), fed);
      }
      due("9: the highest first", x.text(), 1);
    }
  }

  private static void fullTape() {
    for (int n = 1; n < 9; n++) {
      WhoseHare x = new WhoseHare();
      for (int k = 0; k < 160 - n; k++) {
        x.feed(' ', 1);
      }
      due("9: " + n + " to 160", x.feed(0, n), 160);
      due("9: 160 at most", x.feed(0, 1), FULL);
      due("9: still 160", x.count(6), 160);
      due("9: the first that came last is the FAULT", x.text(), FAULT - (160 - n));
    }
    WhoseHare x = new WhoseHare();
    for (int k = 0; k < 159; k++) {
      x.feed(' ', 1);
    }
    for (int n = 2; n < 9; n++) {
      due("9: none of " + n + " comes behind 159", x.feed(' ', n), FULL);
    }
    due("9: one comes", x.feed(' ', 1), 160);
    due("10: the text's size, 160", x.text(), FAULT - 160);
    due("9: from 0 on again", x.feed(' ', 8), 8);
  }

  private static void emptyTape() {
    WhoseHare x = new WhoseHare();
    due("10: nothing ends too early at 0", x.text(), FAULT);
    due("10: again", x.text(), FAULT);
    due("10: no TEXT came", x.count(4), 1);
    Checks.read(x, "worth 1;follow 1;");
    due("10: the read TAPE is empty: again at 0", x.text(), FAULT);
    Checks.read(x, "worth 1;follow ?;");
    due("10: so it is behind a FAULT", x.text(), FAULT);
  }

  /** Each byte between two digits: in a number, an operation, a blank, a ; , or what can't stand there. */
  private static void bytes() {
    for (int c = 0; c < 256; c++) {
      String text = "worth 1" + (char) c + "2;follow 1;";
      if (c >= '0' && c <= '9' || "+-*<=".indexOf(c) >= 0) {
        right(text);
      } else if (c == 32 || c == 10 || c == ';') {
        fault(text, 8);
      } else {
        fault(text, 7);
      }
    }
    for (int c = 128; c < 256; c++) {
      fault((char) c + "worth 1;follow 1;", 0);
    }
  }

  /** Each byte behind a name: a letter makes it another word, what else is none of the word. */
  private static void bytesBehindWords() {
    for (int c = 0; c < 256; c++) {
      String text = "worth kind" + (char) c + ";follow 1;";
      if (c >= 'a' && c <= 'z') {
        fault(text, 6);
      } else if (c == 32 || c == 10) {
        right(text);
      } else {
        fault(text, c == ';' || "+-*<=".indexOf(c) >= 0 ? 11 : 10);
      }
      if (c < 'a' || c > 'z') {
        boolean mayStand = " \n-(0123456789".indexOf(c) >= 0;
        fault("worth" + (char) c + "?", mayStand ? 6 : 5);
      }
    }
  }

  private static void blanks() {
    right("worth\n1\n;\nfollow\n1\n;\n");
    right("   worth   1   ;   follow   1   ;   ");
    right("worth1;follow1;");
    fault("wor th 1;follow 1;", 0);
    fault("worth 1 2;follow 1;", 8);
    fault("", 0);
    fault(" ", 1);
    fault(" \n ", 3);
    fault("\n?", 1);
    for (char c : new char[] {9, 11, 12, 13, 0, 160}) {
      fault("worth 1;follow 1;" + c, 17);
      fault("worth 1;follow 1; " + c, 18);
    }
  }

  private static void words() {
    String[] names = {"kind", "since", "weight", "ground", "tame", "who"};
    for (String name : names) {
      right("worth " + name + ";follow " + name + ";");
      fault("worth " + name + "a;follow 1;", 6);
      fault("worth a" + name + ";follow 1;", 6);
      fault("worth " + name.substring(1) + ";follow 1;", 6);
      fault("worth " + name.substring(0, name.length() - 1) + ";follow 1;", 6);
      fault("worth 1;follow 0-" + name + "z;", 17);
      fault("worth " + name.toUpperCase(java.util.Locale.ROOT) + ";follow 1;", 6);
    }
    for (String key : new String[] {"worth", "follow", "or", "and"}) {
      fault("worth " + key + ";follow 1;", 6);
      fault("worth 1 " + key + "s 1;follow 1;", 8);
    }
    fault("worth nott 1;follow 1;", 6);
    fault("worth no 1;follow 1;", 6);
    fault("worths 1;follow 1;", 0);
    fault("wort 1;follow 1;", 0);
    fault("worth 1;follows 1;", 8);
    fault("worth 1;ollow 1;", 8);
  }

  private static void longestTokens() {
    fault("worthkind;follow 1;", 0);
    fault("worth notkind;follow 1;", 6);
    fault("worth kindor who;follow 1;", 6);
    fault("worth 1 andnot 1;follow 1;", 8);
    right("worth not(kind)or(who)and not 1;follow 1;");
    right("worth not1or 1and 0;follow 1;");
    fault("worth 12kind;follow 1;", 8);
    fault("worth kind12;follow 1;", 10);
    fault("worth --------;follow 1;", 11);
  }

  private static void numbers() {
    for (String number : new String[] {"0", "9", "10", "99", "100", "999", "1000", "9999", "0000", "0009"}) {
      right("worth " + number + ";follow " + number + ";");
    }
    for (String number : new String[] {"00000", "10000", "99999", "123456789", "4294967296", "18446744073709551616"}) {
      fault("worth " + number + ";follow 1;", 6);
      fault("worth 1+" + number + ";follow 1;", 8);
      fault("worth 1;follow " + number + ";", 15);
    }
    right("worth 1234-5678+9012*3456;follow 1;");
    fault("worth 1 10000;follow 1;", 8);
    StringBuilder most = new StringBuilder("worth ");
    while (most.length() < 160) {
      most.append('1');
    }
    fault(most.toString(), 6);
  }

  /** Tokens whose last byte is the 160th. */
  private static void tokensAtTheEnd() {
    String blanks = " ".repeat(160);
    for (String word : new String[] {"worth", "wort", "w", "worthy", "kind", "who", "kin", "9999", "12345", "(", "?"}) {
      String text = blanks.substring(word.length()) + word;
      due("9: so long", text.length(), 160);
      fault(text, word.equals("worth") ? 160 : 160 - word.length());
    }
    String ahead = "worth 1;follow 1+" + blanks;
    for (String one : new String[] {"kind", "who", "tame", "7", "9999"}) {
      fault(ahead.substring(0, 160 - one.length()) + one, 160);
      right(ahead.substring(0, 159 - one.length()) + one + ";");
    }
    for (String none : new String[] {"kin", "whos", "12345", "worth", "and"}) {
      fault(ahead.substring(0, 160 - none.length()) + none, 160 - none.length());
    }
    fault(ahead.substring(0, 15) + "1" + blanks.substring(0, 141) + "not", 157);
  }

  /** Bytes of a longer text that was read ahead of it are no part of a shorter one. */
  private static void whatStoodThere() {
    WhoseHare x = new WhoseHare();
    due("10: a long one", Checks.read(x, "worth 1111+kinds;follow 1;;"), FAULT - 11);
    due("10: cut within a word", Checks.read(x, "worth 1111+kin"), FAULT - 11);
    due("10: cut behind a word", Checks.read(x, "worth 1111+kind"), FAULT - 15);
    due("10: cut within a number", Checks.read(x, "worth 1"), FAULT - 7);
    due("10: cut within a text", Checks.read(x, "worth 1;follow 2;"), 1);
    due("10: another", Checks.read(x, "worth 7;follow 1;"), 2);
    due("10: cut ahead of its last byte", Checks.read(x, "worth 7;follow 1"), FAULT - 16);
  }

  /** Each beginning of a text that has no ends at its size, or at the word that is cut off. */
  private static void tooEarly() {
    String text = "worth 1;follow 1;";
    int[] places = {0, 0, 0, 0, 0, 5, 6, 7, 8, 8, 8, 8, 8, 8, 14, 15, 16};
    for (int size = 0; size < text.length(); size++) {
      fault(text.substring(0, size), places[size]);
      fault(text.substring(0, size) + " \n", places[size] == size ? size + 2 : places[size]);
    }
    for (String e : new String[] {"1+", "1-", "1*", "1<", "1=", "1 or", "1 and", "not", "-", "(", "(1", "(1+", "-(1"}) {
      String cut = "worth " + e;
      fault(cut, cut.length());
      fault(cut + ";follow 1;", cut.length());
      fault("worth 1;follow " + e, 15 + e.length());
      fault("worth 1;follow " + e + " ", 16 + e.length());
    }
  }

  private static void tooMuch() {
    right("worth 1;follow 1;  ");
    for (String more : new String[] {";", "1", "worth", "follow", "or 1", ")", "?", "worth 1;follow 1;", "12345", "x"}) {
      fault("worth 1;follow 1;" + more, 17);
      fault("worth 1;follow 1;\n " + more, 19);
    }
    fault("follow 1;worth 1;", 0);
    fault("worth 1;worth 1;", 8);
    fault("worth 1;;follow 1;", 8);
    fault("worth ;follow 1;", 6);
    fault("worth 1;follow ;", 15);
    fault("worth 1 follow 1;", 8);
  }

  private static void grammar() {
    for (String op : new String[] {"+", "-", "*", "<", "=", " or ", " and "}) {
      right("worth 1" + op + "1;follow 1" + op + "1;");
      fault("worth " + op.trim() + (op.equals("-") ? "" : " 1") + ";follow 1;", op.equals("-") ? 7 : 6);
      fault("worth 1" + op + ";follow 1;", 7 + op.length());
      fault("worth 1" + op + ")1;follow 1;", 7 + op.length());
      fault("worth 1)" + op + "1;follow 1;", 7);
    }
    right("worth 1<1;follow 1=1;");
    for (String two : new String[] {"1<1<1", "1<1=1", "1=1<1", "1=1=1"}) {
      fault("worth " + two + ";follow 1;", 9);
      right("worth (" + two.substring(0, 3) + ")" + two.substring(3) + ";follow 1;");
      right("worth " + two.substring(0, 3) + " and 1" + two.substring(3) + ";follow 1;");
    }
    for (String not : new String[] {"1+not 1", "1*not 1", "1<not 1", "1=not 1", "1-not 1"}) {
      fault("worth " + not + ";follow 1;", 8);
      right("worth " + not.replace("not 1", "(not 1)") + ";follow 1;");
    }
    fault("worth -not 1;follow 1;", 7);
    right("worth 1 or not 1 and not not 1;follow 1;");
    right("worth 1--1+-1*-1<-1;follow 1;");
    fault("worth 1(1);follow 1;", 7);
    fault("worth (1)(1);follow 1;", 9);
    fault("worth ();follow 1;", 7);
    fault("worth (1;follow 1);", 8);
    fault("worth 1 not;follow 1;", 8);
  }

  /** All rows of five openings are taken, and each sixth is the fault. */
  private static void fiveOpen() {
    open("", "", 0, true);
  }

  private static void open(String ahead, String behind, int many, boolean notMayStand) {
    if (many == 5) {
      right("worth " + ahead + "1" + behind + ";follow " + ahead + "1" + behind + ";");
      fault("worth " + ahead + "(1)" + behind + ";follow 1;", 6 + ahead.length());
      fault("worth " + ahead + "-1" + behind + ";follow 1;", 6 + ahead.length());
      fault("worth " + ahead + "not 1" + behind + ";follow 1;", 6 + ahead.length());
      fault("worth 1;follow " + ahead + "(1)" + behind + ";", 15 + ahead.length());
      return;
    }
    open(ahead + "(", ")" + behind, many + 1, true);
    open(ahead + "-", behind, many + 1, false);
    if (notMayStand) {
      open(ahead + "not ", behind, many + 1, true);
    }
  }

  private static void openTillTheyEnd() {
    right("worth (1)+(((((1)))));follow 1;");
    fault("worth (1)+((((((1))))));follow 1;", 15);
    right("worth -1+(((((1)))));follow 1;");
    right("worth -(1)*-----1;follow 1;");
    fault("worth -(1)*------1;follow 1;", 16);
    right("worth not 1 or not not not not not 1;follow 1;");
    right("worth not 1 and (((((1)))));follow 1;");
    fault("worth not 1<(((((1)))));follow 1;", 16);
    right("worth not 1<((((1))));follow 1;");
    fault("worth not 1+(((((1)))));follow 1;", 16);
    fault("worth not 1*-----1;follow 1;", 16);
    fault("worth (1+(((((1))))));follow 1;", 13);
    right("worth (1+((((1)))));follow 1;");
    right("worth ((((-1+-1))))-((((-1))));follow 1;");
    fault("worth ((((-(1)+1))));follow 1;", 11);
    right("worth not not not not(1)or not not not not(1);follow not not not not(1);");
    right("worth (((((1)))));follow (((((1)))));");
    right("worth 1-----1;follow 1;");
    right("worth 1------1;follow 1;");
    fault("worth 1-------1;follow 1;", 13);
  }

  private static void mostTexts() {
    WhoseHare x = new WhoseHare();
    for (int t = 1; t < 6; t++) {
      due("10: a FAULT takes no number", Checks.read(x, "worth 1"), FAULT - 7);
      due("10: TEXTS by numbers, 0 is there", Checks.read(x, "worth " + t + ";follow 1;"), t);
    }
    due("10: six at most", Checks.read(x, "worth 1;follow 1;"), FULL);
    due("10: THE TAPE stays", x.count(6), 17);
    due("10: FULL again", x.text(), FULL);
    due("9: and can be fed", x.feed('?', 1), 18);
    due("10: FULL ahead of the FAULT", x.text(), FULL);
    due("10: six TEXTS", x.count(4), 6);
    x.ground(0);
    x.beast(0, -1);
    for (int t = 1; t < 6; t++) {
      x.force(t);
      due("11: each is itself", x.claimTold(0, 0, 7), t);
    }
  }

  private static void longTexts() {
    StringBuilder sum = new StringBuilder("worth 1");
    while (sum.length() < 151) {
      sum.append("+1");
    }
    String text = sum + ";follow 1";
    due("10: so long", text.length(), 160);
    fault(text, 160);
    text = sum.substring(0, 149) + ";follow 1; ";
    due("10: so long", text.length(), 160);
    right(text);
    text = text.substring(0, 159) + ";";
    fault(text, 159);
    StringBuilder and = new StringBuilder("worth 1");
    while (and.length() < 140) {
      and.append("<1and 1");
    }
    right(and + ";follow 1;");
    right("worth 1;follow" + sum.substring(5, 145) + ";");
  }

  private static void textZero() {
    WhoseHare x = new WhoseHare();
    x.ground(0);
    x.ground(1);
    x.beast(0, 2);
    x.moment(0, 7, 0, 1, 0);
    x.moment(9, 5, 0, 1, 1);
    due("10: weight * 10 + ground * 5, without its GROUND", x.claimTold(1, 2, 7), 150);
    due("10: with it", x.claimTold(2, 2, 7), 155);
    due("10: of a HOME", x.claimTold(2, 0, 7), 60);
    due("10: of a GROUND", x.claimTold(0, 1, 7), 45);
    due("10: behind it, elsewhere", x.claimTold(2, 1, 7), 40);
    for (int g = 0; g < 2; g++) {
      due("10: follow 1", x.follow(9, g, 0), 1);
    }
    Checks.read(x, "worth weight*10+ground*5;follow 1;");
    x.force(1);
    due("10: it can be written", x.claimTold(2, 2, 7), 155);
  }

  private static void forcing() {
    WhoseHare x = new WhoseHare();
    due("11: TEXT 0 of one", x.force(0), 0);
    for (int t = 1; t < 6; t++) {
      Checks.read(x, "worth 1;follow 1;");
      due("11: reading forces nothing", x.count(5), t - 1);
      due("11: the last one", x.force(t), t - 1);
      due("11: the same again", x.force(t), t);
    }
    due("11: the first again", x.force(0), 5);
  }

  /** What an E is, told as 1 if it is that. */
  private static void is(String e) {
    worth("(" + e + ")", 1);
  }

  private static void worth(String e, int want) {
    WhoseHare x = new WhoseHare();
    x.ground(0);
    x.beast(0, -1);
    due("10: <" + e + "> is a TEXT's", Checks.read(x, "worth " + e + ";follow 1;"), 1);
    x.force(1);
    due("14: worth " + e, x.claimTold(0, 0, 7), want);
  }

  /** 8192 * 8192 * 32 is 2 to the 31st: the least int. */
  private static void wrapping() {
    String least = "8192*8192*32";
    is(least + "<0");
    is("0<" + least + "-1");
    is(least + "-1+1=" + least);
    is("-(" + least + ")=" + least);
    is("-(" + least + ")<0");
    is("0-(" + least + "-1)=" + least + "+1");
    is(least + "<" + least + "-1");
    worth(least + "-1<" + least, 0);
    is("8192*8192*64=0");
    is("not(8192*8192*64)");
    is("-8192*8192*32=" + least);
    is(least + "+" + least + "=0");
    is("8192*8192*32 and 1");
    is("9999*9999*43=417*9999+3164");
    is("9999*9999*22<0");
    worth(least, 0);
    worth(least + "-1", 9999);
    worth("8192*8192*64", 0);
    worth("8192*8192*64+3", 3);
    worth("0<" + least, 0);
  }

  private static void truths() {
    for (String is : new String[] {"1", "7", "9999", "-1", "8192*8192*32"}) {
      worth("0 or " + is, 1);
      worth(is + " or 0", 1);
      worth(is + " or " + is, 1);
      worth(is + " and " + is, 1);
      worth(is + " and 0", 0);
      worth("0 and " + is, 0);
      worth("not " + is, 0);
      worth("not not " + is, 1);
    }
    worth("0 or 0", 0);
    worth("0 and 0", 0);
    worth("not 0", 1);
    worth("not not 0", 0);
    worth("2<3", 1);
    worth("3<3", 0);
    worth("4<3", 0);
    worth("3=3", 1);
    worth("3=2", 0);
    worth("2=3", 0);
    worth("-1<0", 1);
    worth("0<-1", 0);
    worth("0=-0", 1);
    worth("(2<3)+(3=3)+(1 or 5)+(4 and 4)+(not 0)", 5);
    worth("1 or 0 and 0", 1);
    worth("(1 or 0)and 0", 0);
    worth("not 0 and 0", 0);
    worth("not(0 and 0)", 1);
    worth("not 1=0", 1);
    worth("(not 1)=0", 1);
    worth("not 2=1", 1);
    worth("(not 2)=1", 0);
    worth("2+3*4", 14);
    worth("2*3+4", 10);
    worth("9-4-3", 2);
    worth("9-(4-3)", 8);
    worth("9-4+3", 8);
    worth("2+2<5 and 1+1=2", 1);
    worth("-2+5", 3);
    worth("-2*-3", 6);
    worth("5--5", 10);
  }

  private static void bounds() {
    worth("0", 0);
    worth("1", 1);
    worth("-1", 0);
    worth("9998", 9998);
    worth("9999", 9999);
    worth("9999+1", 9999);
    worth("9999*9999", 9999);
    worth("0-9999*9999", 0);
  }

  /** A claim of the person's, behind so many moments; told by each name. */
  private static void claim(int who, int keeper, int owner, int now, int[] due) {
    String[] names = {"kind", "since", "weight", "ground", "tame", "who"};
    WhoseHare x = new WhoseHare();
    x.ground(owner);
    x.beast(0, keeper);
    x.moment(0, 7, 0, who, 0);
    x.moment(now, 4, 0, (who + 1) % 10, 0);
    int i = x.claims(2) - 1;
    for (int k = 0; k < 6; k++) {
      if (k == 5) {
        x = new WhoseHare();
        x.ground(owner);
        x.beast(0, keeper);
        x.moment(0, 7, 0, who, 0);
        x.moment(now, 4, 0, (who + 1) % 10, 0);
      }
      due("14: a TEXT", Checks.read(x, "worth " + names[k] + ";follow 1;"), k == 5 ? 1 : k + 1);
      x.force(x.count(4) - 1);
      due("14: " + names[k] + " of " + who + "'s claim at " + now, x.claimTold(2, i, 7), due[k]);
      if (k == 1) {
        due("14: since behind the first", x.claimTold(1, i, 7), 0);
      }
    }
  }

  private static void namesOfClaims() {
    claim(0, -1, -1, 0, new int[] {3, 0, 15, 0, 0, 0});
    claim(9, 0, 9, 999, new int[] {3, 999, 15, 1, 1, 9});
    claim(0, 9, 0, 1, new int[] {3, 1, 15, 1, 1, 0});
    claim(5, -1, 4, 30, new int[] {3, 30, 15, 0, 0, 5});
  }

  /** Whether p may follow wild beast 0, tame beast 1, onto ground 0: nobody's, 1: 0's, 2: 9's. */
  private static void follow(String e, int p, int g, int b, int want) {
    WhoseHare x = new WhoseHare();
    x.ground(-1);
    x.ground(0);
    x.ground(9);
    x.beast(0, -1);
    x.beast(0, 0);
    Checks.read(x, "worth 1;follow " + e + ";");
    x.force(1);
    due("12: " + p + " onto " + g + ", beast " + b + " by " + e, x.follow(p, g, b), want);
  }

  private static void mayFollow() {
    follow("0", 0, 0, 0, 0);
    follow("1", 9, 2, 1, 1);
    follow("-1", 0, 0, 0, 1);
    follow("9999", 0, 0, 0, 1);
    follow("9999*9999", 0, 0, 0, 1);
    follow("0-9999*9999", 0, 0, 0, 1);
    follow("8192*8192*32", 0, 0, 0, 1);
    follow("8192*8192*64", 0, 0, 0, 0);
  }

  private static void namesOfFollow() {
    for (int p = 0; p < 10; p++) {
      follow("kind=-1", p, 0, 0, 1);
      follow("since", p, 1, 1, 0);
      follow("who=" + p, p, 2, 1, 1);
      follow("who", p, 0, 0, p == 0 ? 0 : 1);
      follow("ground", p, 0, 0, 0);
      follow("ground=1", p, 1, 0, p == 0 ? 1 : 0);
      follow("ground=1", p, 2, 0, p == 9 ? 1 : 0);
      follow("weight=0", p, 0, 1, 1);
      follow("weight=1", p, 1, 1, 1);
      follow("weight=10", p, 2, 1, 1);
      follow("tame=0", p, 0, 0, 1);
      follow("tame=1", p, 0, 1, 1);
    }
    followAnew();
    WhoseHare x = new WhoseHare();
    x.ground(3);
    x.beast(0, -1);
    Checks.read(x, "worth 1;follow ground;");
    x.force(1);
    due("12: onto one's own", x.follow(3, 0, 0), 1);
    x.owns(0, 4);
    due("12: it isn't that any more", x.follow(3, 0, 0), 0);
    due("12: it is 4's", x.follow(4, 0, 0), 1);
    x.owns(0, -1);
    due("12: it is nobody's", x.follow(4, 0, 0), 0);
  }

  /** What was asked ahead of it is forgotten. */
  private static void followAnew() {
    WhoseHare x = new WhoseHare();
    x.ground(0);
    x.ground(4);
    x.beast(0, 4);
    x.beast(1, -1);
    x.moment(9, 5, 0, 4, 1);
    String[] names = {"since", "kind+1", "who", "tame", "ground+weight-5"};
    for (int k = 0; k < 5; k++) {
      Checks.read(x, "worth since+kind;follow " + names[k] + ";");
      x.force(k + 1);
      due("14: of a HOME, since 0", x.claimTold(1, 0, 7), 14);
      due("12: " + names[k] + " of 0, GROUND 1, BEAST 1", x.follow(0, 1, 1), 0);
    }
  }
}
