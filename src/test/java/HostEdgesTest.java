/**
 * Promises 19 and 29 to 33 and what the terms tell of sheets: the first and the last place, none and all of them, what
 * bytes and shorts wrap to, what stood ahead. RefusalTest has what isn't taken.
 */
public final class HostEdgesTest {
  private static final Checks CHECKS = new Checks("HostEdgesTest");
  private static final int LOW = Integer.MIN_VALUE, HIGH = Integer.MAX_VALUE;

  private HostEdgesTest() { }

  private static void due(String what, long got, long want) {
    CHECKS.due(what, got, want);
  }

  public static void main(String[] args) {
    sheetsAndSorts();
    sizes();
    missing();
    sheetsAnew();
    firstAndLastCell();
    narrow();
    wide();
    copiesOfAll();
    copiesOfNone();
    copiesToTheEnd();
    copiesOverThemselves();
    copiesOfSorts();
    tellsNoneAndAll();
    tellsToTheEnd();
    tellsWhatStoodAhead();
    tellsOthersLeftOut();
    tellsUntilFull();
    tellsAsMoment();
    judgesWithoutMoments();
    judgesAll();
    judgesEachPlace();
    takenPlaces();
    takenKinds();
    takenNow();
    CHECKS.end();
  }

  private static WhoseHare withBeast() {
    WhoseHare x = new WhoseHare();
    x.ground(-1);
    x.ground(2);
    x.beast(0, -1);
    return x;
  }

  private static void row(WhoseHare x, int s, int at, int... row) {
    for (int k = 0; k < row.length; k++) {
      due("30: a number", x.cell(s, at + k, row[k]), 1);
    }
  }

  /** Number i of a sheet, of a sort, as the time that a moment of it would have; -1, if that is none. */
  private static int number(WhoseHare x, int s, int sort, int i) {
    int other = s == 3 ? 2 : 3;
    x.sheet(other, sort, 5);
    x.copy(s, i, other, 0, 1);
    int told = x.tell(other, sort, 0, 1) == 1 ? x.momentTold(x.count(2) - 1, 0) : -1;
    if (told >= 0) {
      x.undo();
    }
    return told;
  }

  private static void sheetsAndSorts() {
    WhoseHare x = withBeast();
    for (int s = 0; s < 4; s++) {
      for (int sort = 0; sort < 3; sort++) {
        due("29: SHEET " + s + " of sort " + sort, x.sheet(s, sort, 5), 1);
        for (int as = 0; as < 3; as++) {
          due("29: it is of that sort", x.tell(s, as, 0, 0), as == sort ? 0 : -13);
        }
      }
      due("29: missing", x.sheet(s, -1, 0), 1);
      due("29: nothing there", x.cell(s, 0, 0), -11);
    }
  }

  private static void sizes() {
    WhoseHare x = withBeast();
    for (int sort = 0; sort < 3; sort++) {
      for (int n : new int[] {0, 1, 39, 40}) {
        due("29: " + n, x.sheet(0, sort, n), 1);
        due("30: no place behind the last", x.cell(0, n, 1), -12);
        due("30: the last", x.cell(0, n - 1, 1), n == 0 ? -12 : 1);
      }
    }
  }

  private static void missing() {
    WhoseHare x = withBeast();
    for (int n : new int[] {0, 40, 41, -1, LOW, HIGH}) {
      x.sheet(0, 2, 3);
      due("29: missing, n does not matter", x.sheet(0, -1, n), 1);
      due("29: it is", x.cell(0, 0, 0), -11);
      due("29: missing again", x.sheet(0, -1, n), 1);
      due("29: it is", x.copy(0, 0, 0, 0, 0), -11);
    }
    due("29: a row again", x.sheet(0, 2, 3), 1);
    due("30: with places", x.cell(0, 2, 0), 1);
  }

  private static void sheetsAnew() {
    WhoseHare x = withBeast();
    for (int sort = 0; sort < 3; sort++) {
      x.sheet(0, sort, 40);
      for (int i = 0; i < 40; i++) {
        x.cell(0, i, 9);
      }
      due("29: anew, longer or shorter", x.sheet(0, sort, 10 + 15 * sort), 1);
      for (int i = 0; i < 10 + 15 * sort; i += 9) {
        due("29: all 0", number(x, 0, sort, i), 0);
      }
    }
    x = withBeast();
    x.sheet(0, 2, 40);
    x.cell(0, 39, 9);
    x.sheet(0, 2, 3);
    x.sheet(0, 2, 40);
    due("29: all 0, longer again", number(x, 0, 2, 39), 0);
    x.cell(0, 39, 9);
    x.sheet(0, -1, 0);
    x.sheet(0, 2, 40);
    due("29: all 0, there again", number(x, 0, 2, 39), 0);
    x.sheet(1, 2, 1);
    x.cell(1, 0, 7);
    x.sheet(0, 2, 1);
    due("29: another SHEET stays", number(x, 1, 2, 0), 7);
  }

  private static void firstAndLastCell() {
    WhoseHare x = withBeast();
    for (int sort = 0; sort < 3; sort++) {
      x.sheet(sort, sort, 6);
      due("30: place 0", x.cell(sort, 0, 11), 1);
      due("30: the last place", x.cell(sort, 5, 12), 1);
      int[] due = {11, 0, 0, 0, 0, 12};
      for (int i = 0; i < 6; i++) {
        due("30: number " + i, number(x, sort, sort, i), due[i]);
      }
      x.cell(sort, 0, 13);
      due("30: another then", number(x, sort, sort, 0), 13);
    }
  }

  /** What a number becomes, as judge() tells whether it is -1, and tell() whether it is a time. */
  private static void becomes(int sort, int v, int as) {
    WhoseHare x = withBeast();
    x.sheet(0, sort, 1);
    due("30: " + v + " in sort " + sort, x.cell(0, 0, v), 1);
    due("30: " + v + " in sort " + sort + " is -1", x.judge(0, 0), as == -1 ? -1 : 0);
    due("30: " + v + " in sort " + sort + " as a TIME", number(x, 0, sort, 0), as >= 0 && as < 1000 ? as : -1);
  }

  private static void narrow() {
    for (int v : new int[] {0, 1, 127, -1, -128, 128, 255, 256, 257, -129, -256, 383, 999, 65535, LOW, HIGH, LOW + 5}) {
      becomes(0, v, (byte) v);
      becomes(1, v, (short) v);
    }
    becomes(0, 127, 127);
    becomes(0, 128, -128);
    becomes(0, 255, -1);
    becomes(0, 256 + 127, 127);
    becomes(0, -129, 127);
    becomes(0, HIGH, -1);
    becomes(0, LOW, 0);
    for (int v : new int[] {32767, 32768, 65536, 65537, -32768, -32769, 65536 + 999, -65536 + 999}) {
      becomes(1, v, (short) v);
    }
    becomes(1, 65535, -1);
    becomes(1, 65536 + 999, 999);
    becomes(1, -65536, 0);
    becomes(1, 255, 255);
    becomes(1, HIGH, -1);
  }

  private static void wide() {
    for (int v : new int[] {0, 999, 1000, -1, 255, 256, 65535, 65536, LOW, HIGH}) {
      becomes(2, v, v);
    }
  }

  private static void copiesOfAll() {
    WhoseHare x = withBeast();
    x.sheet(0, 2, 40);
    x.sheet(3, 2, 40);
    for (int i = 0; i < 40; i++) {
      x.cell(0, i, i + 1);
    }
    due("31: all 40 to another one", x.copy(0, 0, 3, 0, 40), 40);
    due("31: and to itself", x.copy(3, 0, 3, 0, 40), 40);
    due("31: from the least SHEET, to the greatest, and back", x.copy(3, 0, 0, 0, 40), 40);
    for (int i = 0; i < 40; i += 13) {
      due("31: number " + i, number(x, 3, 2, i), i + 1);
      x.sheet(2, -1, 0);
    }
  }

  private static void copiesOfNone() {
    WhoseHare x = withBeast();
    x.sheet(0, 2, 5);
    x.sheet(1, 2, 0);
    x.cell(0, 4, 8);
    due("31: none", x.copy(0, 0, 0, 0, 0), 0);
    due("31: none behind the last", x.copy(0, 5, 0, 5, 0), 0);
    due("31: none of an empty one", x.copy(1, 0, 0, 5, 0), 0);
    due("31: none to an empty one", x.copy(0, 5, 1, 0, 0), 0);
    due("31: one of an empty one", x.copy(1, 0, 0, 0, 1), -12);
    due("31: one to an empty one", x.copy(0, 0, 1, 0, 1), -12);
    due("31: it is as it was", number(x, 0, 2, 4), 8);
  }

  private static void copiesToTheEnd() {
    WhoseHare x = withBeast();
    x.sheet(0, 2, 6);
    x.sheet(1, 2, 4);
    for (int i = 0; i < 6; i++) {
      x.cell(0, i, i + 10);
    }
    due("31: the last to the last", x.copy(0, 5, 1, 3, 1), 1);
    due("31: one more is outside", x.copy(0, 5, 1, 2, 2), -12);
    due("31: and outside of the other", x.copy(0, 2, 1, 3, 2), -12);
    due("31: the first to the first", x.copy(0, 0, 1, 0, 1), 1);
    int[] due = {10, 0, 0, 15};
    for (int i = 0; i < 4; i++) {
      due("31: to: number " + i, number(x, 1, 2, i), due[i]);
    }
    due("31: as many as it has", x.copy(0, 2, 1, 0, 4), 4);
    for (int i = 0; i < 4; i++) {
      due("31: to: number " + i, number(x, 1, 2, i), 12 + i);
    }
    for (int i = 0; i < 6; i++) {
      due("31: from stays: number " + i, number(x, 0, 2, i), 10 + i);
    }
  }

  private static void copiesOverThemselves() {
    int[][] moves = {{0, 1, 5}, {1, 0, 5}, {0, 3, 3}, {3, 0, 3}, {0, 2, 4}, {2, 0, 4}, {2, 2, 3}, {0, 5, 1}, {5, 0, 1}};
    for (int sort = 0; sort < 3; sort++) {
      for (int[] m : moves) {
        WhoseHare x = withBeast();
        x.sheet(0, sort, 6);
        int[] due = new int[6];
        for (int i = 0; i < 6; i++) {
          x.cell(0, i, i + 20);
          due[i] = i + 20;
        }
        due("31: within one", x.copy(0, m[0], 0, m[1], m[2]), m[2]);
        for (int k = 0; k < m[2]; k++) {
          due[m[1] + k] = m[0] + k + 20;
        }
        for (int i = 0; i < 6; i++) {
          due("31: as they were: " + m[2] + " from " + m[0] + " to " + m[1], number(x, 0, sort, i), due[i]);
        }
      }
    }
  }

  private static void copiesOfSorts() {
    for (int from = 0; from < 3; from++) {
      for (int to = 0; to < 3; to++) {
        WhoseHare x = withBeast();
        x.sheet(0, from, 3);
        x.sheet(1, to, 3);
        x.cell(0, 2, 99);
        due("31: of sort " + from + " to " + to, x.copy(0, 2, 1, 0, 1), from == to ? 1 : -13);
        due("31: it came, or not", number(x, 1, to, 0), from == to ? 99 : 0);
      }
    }
  }

  private static void tellsNoneAndAll() {
    for (int sort = 0; sort < 3; sort++) {
      WhoseHare x = withBeast();
      x.sheet(3, sort, 40);
      for (int m = 0; m < 8; m++) {
        row(x, 3, 5 * m, m, m % 3, 0, m, 9 - m);
      }
      due("32: none", x.tell(3, sort, 0, 0), 0);
      due("32: none came", x.count(2), 0);
      due("32: one", x.tell(3, sort, 35, 1), 1);
      due("32: the last five", x.momentTold(0, 0) * 10 + x.momentTold(0, 4), 72);
      x.undo();
      due("32: eight", x.tell(3, sort, 0, 8), 8);
      for (int m = 0; m < 8; m++) {
        int[] due = {m, m % 3, 0, m, 9 - m, 0};
        for (int w = 0; w < 6; w++) {
          due("32: of MOMENT " + m + " what " + w, x.momentTold(m, w), due[w]);
        }
      }
    }
  }

  private static void tellsToTheEnd() {
    WhoseHare x = withBeast();
    for (int size = 4; size < 12; size++) {
      for (int at = 0; at < 8; at++) {
        x.sheet(0, 2, size);
        boolean one = at + 5 <= size;
        boolean two = at + 10 <= size;
        due("32: one from " + at + " of " + size, x.tell(0, 2, at, 1), one ? 1 : -12);
        due("32: how many came", x.count(2), one ? 1 : 0);
        x.undo();
        due("32: two from " + at + " of " + size, x.tell(0, 2, at, 2), two ? 2 : -12);
        due("32: how many came", x.count(2), two ? 2 : one ? 1 : 0);
        x.undo();
        x.undo();
      }
      x = withBeast();
    }
    x.sheet(0, 2, 0);
    due("32: one from an empty one", x.tell(0, 2, 0, 1), -12);
    due("32: none from an empty one", x.tell(0, 2, 0, 0), 0);
  }

  private static void tellsWhatStoodAhead() {
    WhoseHare x = withBeast();
    x.sheet(0, 2, 39);
    for (int m = 0; m < 7; m++) {
      row(x, 0, 5 * m, m == 3 ? 1000 : m + 1, 0, 0, 4, 0);
    }
    due("32: the eighth is cut off", x.tell(0, 2, 0, 8), -12);
    due("32: of what stood ahead six came", x.count(2), 6);
    due("32: the last of them", x.momentTold(5, 0), 7);
    due("32: those that are too early are left out", x.tell(0, 2, 0, 7), 1);
    due("32: the last came again", x.momentTold(6, 0), 7);
  }

  private static void tellsOthersLeftOut() {
    int[][] refused = {{4, 0, 0, 0, 0}, {1000, 0, 0, 0, 0}, {5, -1, 0, 0, 0}, {5, 10, 0, 0, 0}, {5, 0, -1, 0, 0},
        {5, 0, 1, 0, 0}, {5, 0, 0, -1, 0}, {5, 0, 0, 10, 0}, {5, 0, 0, 0, -1}, {5, 0, 0, 0, 10}, {5, 5, 0, 0, 2}};
    for (int[] m : refused) {
      WhoseHare x = withBeast();
      x.moment(5, 3, 0, 1, 0);
      x.sheet(0, 2, 15);
      row(x, 0, 0, 5, 0, 0, 7, 0);
      row(x, 0, 5, m);
      row(x, 0, 10, 5, 1, 0, 8, 0);
      due("32: two of three came", x.tell(0, 2, 0, 3), 2);
      due("32: the first", x.momentTold(1, 3), 7);
      due("32: and the third", x.momentTold(2, 3), 8);
      due("32: no more", x.count(2), 3);
      due("32: the one alone", x.tell(0, 2, 5, 1), 0);
    }
    WhoseHare x = new WhoseHare();
    x.sheet(0, 2, 40);
    due("32: without BEASTS none", x.tell(0, 2, 0, 8), 0);
  }

  private static void tellsUntilFull() {
    WhoseHare x = withBeast();
    for (int m = 0; m < 30; m++) {
      x.moment(0, 0, 0, 0, 0);
    }
    x.sheet(0, 0, 40);
    due("32: two of eight, then it is FULL", x.tell(0, 0, 0, 8), 2);
    due("32: none", x.tell(0, 0, 0, 8), 0);
    due("26: 32", x.count(2), 32);
    x.sheet(0, 0, 39);
    due("32: FULL, but outside", x.tell(0, 0, 0, 8), -12);
    due("26: 32", x.count(2), 32);
  }

  private static void tellsAsMoment() {
    WhoseHare x = withBeast();
    x.sheet(0, 1, 10);
    row(x, 0, 0, 999, 9, 0, 9, 9);
    row(x, 0, 5, 999, 5, 0, 0, 1);
    due("32: the greatest numbers", x.tell(0, 1, 0, 2), 2);
    due("17: it crossed", x.where(0, 2, 0), 1);
    due("13: a CLAIM of the GROUND's", x.claims(2), 1);
    due("8: not UNSURE", x.momentTold(1, 5), 0);
    due("30: the SHEET stays as it is", number(x, 0, 1, 0), 999);
    WhoseHare y = withBeast();
    y.sheet(0, 0, 5);
    row(y, 0, 0, 255, 0, 0, 0, 0);
    due("32: a byte 255 is -1, no TIME", y.tell(0, 0, 0, 1), 0);
    y.cell(0, 0, 127);
    due("32: 127 is", y.tell(0, 0, 0, 1), 1);
    y.sheet(0, 1, 5);
    row(y, 0, 0, 255, 0, 0, 0, 0);
    due("32: a short 255 is", y.tell(0, 1, 0, 1), 1);
  }

  private static void judgesWithoutMoments() {
    for (int p = -1; p < 10; p++) {
      WhoseHare x = new WhoseHare();
      x.ground(p);
      x.beast(0, -1);
      x.sheet(0, 0, 1);
      for (int told = -1; told < 10; told++) {
        x.cell(0, 0, told);
        due("19: " + p + "'s, told as " + told + "'s", x.judge(0, 0), told == p ? -1 : 0);
      }
      x.sheet(0, 0, 0);
      due("19: one too few", x.judge(0, 0), -2);
      x.sheet(0, 0, 2);
      due("19: one too many", x.judge(0, 0), -2);
    }
  }

  private static WhoseHare with32() {
    WhoseHare x = withBeast();
    for (int m = 0; m < 32; m++) {
      x.moment(m, m % 2 == 0 ? 3 : 8, 0, m / 2 % 10, 0);
    }
    return x;
  }

  private static void judgesAll() {
    for (int sort = 0; sort < 3; sort++) {
      WhoseHare x = with32();
      x.sheet(3, sort, 33);
      for (int n = 0; n < 33; n++) {
        x.cell(3, n, n % 2 == 0 ? -1 : n / 2 % 10);
      }
      due("19: all 33 are right", x.judge(0, 3), -1);
      x.cell(3, 32, 0);
      due("19: but the last", x.judge(0, 3), 32);
      x.cell(3, 0, 10);
      due("19: and the first: the first", x.judge(0, 3), 0);
      for (int n : new int[] {32, 34, 40}) {
        x.sheet(3, sort, n);
        due("19: not just MOMENTS and 1", x.judge(0, 3), -2);
      }
    }
  }

  private static void judgesEachPlace() {
    WhoseHare x = with32();
    x.sheet(0, 0, 33);
    for (int n = 0; n < 33; n++) {
      due("19: right as far as " + n, x.judge(0, 0), firstWrong(n));
      x.cell(0, n, n % 2 == 0 ? -1 : n / 2 % 10);
    }
    due("19: all are", x.judge(0, 0), -1);
  }

  /** Cells not yet told are 0, which is right for the first whose it is: 0's behind 1 and 21. */
  private static int firstWrong(int n) {
    return n == 1 || n == 21 ? n + 1 : n;
  }

  private static void takenPlaces() {
    WhoseHare x = new WhoseHare();
    for (int g = 0; g < 8; g++) {
      x.ground(g);
    }
    for (int b = 0; b < 6; b++) {
      due("33: no BEAST yet at " + b, x.taken(b, 6), -11);
      x.beast(7 - b, b);
      due("33: its HOME", x.taken(b, 6), 7 - b);
    }
    for (int i = 0; i < 12; i++) {
      due("33: CLAIM " + i + " for a CLAIM", x.taken(6 + i, 0), i % 2 == 0 ? i / 2 : 7 - i / 2);
    }
    due("33: nothing behind the last", x.taken(18, 0), -11);
    for (int m = 0; m < 32; m++) {
      x.moment(m, 3, 0, m % 10, 0);
    }
    due("33: at 18 now", x.taken(18, 3), 0);
    due("33: at 49", x.taken(49, 3), 1);
    due("33: none at 50", x.taken(50, 3), -12);
    x.undo();
    due("33: nothing at 49", x.taken(49, 3), -11);
  }

  private static void takenKinds() {
    WhoseHare x = new WhoseHare();
    x.ground(8);
    x.beast(0, 9);
    for (int w = 0; w < 4; w++) {
      x.moment(1, w, 0, w, 0);
    }
    // 0 HOME, 1 GROUND, 2 CLAIM, 3 CHASE, 4 WOUND, 5 HOLD
    int[] whose = {9, 8, 0, 1, 2, 3};
    int[][] is = {{0, 3, 5}, {0, 4}, {0}, {0, 1}, {0, 1, 2}, {0, 3}};
    for (int i = 0; i < 6; i++) {
      for (int kind = 0; kind < 7; kind++) {
        boolean one = false;
        for (int k : is[i]) {
          one = one || k == kind;
        }
        due("33: CLAIM " + i + " for KIND " + kind, x.taken(6 + i, kind), one ? whose[i] : -13);
      }
    }
    for (int kind = 0; kind < 6; kind++) {
      due("33: the BEAST for KIND " + kind, x.taken(0, kind), -13);
    }
  }

  private static void takenNow() {
    WhoseHare x = withBeast();
    x.moment(1, 3, 0, 4, 0);
    x.moment(2, 9, 0, 4, 6);
    due("33: behind all MOMENTS", x.taken(6, 3), 6);
    x.undo();
    due("33: it wasn't given", x.taken(6, 3), 4);
    x.moment(2, 5, 0, 4, 1);
    due("33: a GROUND's", x.taken(7, 4), 2);
    due("33: the HOME stays that, wherever it is", x.taken(0, 6), 0);
    x.owns(1, 7);
    due("33: whose it is when it is asked", x.taken(7, 4), 7);
    x.owns(1, -1);
    due("33: nothing lies there", x.taken(7, 4), -11);
  }
}
