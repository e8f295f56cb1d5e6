/** Promises 19 and 29 to 33: sheets, what they tell, what is taken for what. */
public final class HostTest {
  private static final Checks CHECKS = new Checks("HostTest");
  private static final int LOW = Integer.MIN_VALUE, HIGH = Integer.MAX_VALUE;

  private HostTest() { }

  private static void due(String what, long got, long want) {
    CHECKS.due(what, got, want);
  }

  public static void main(String[] args) {
    sheets();
    cells();
    narrowCells();
    copies();
    copiesWithin();
    tells();
    tellsOutside();
    tellsBySorts();
    judges();
    takens();
    CHECKS.end();
  }

  /** A sheet's numbers, each told as the time of a moment by way of sheet 3. */
  private static void numbers(String what, WhoseHare x, int s, int... due) {
    for (int i = 0; i < due.length; i++) {
      x.sheet(3, 2, 5);
      due(what + ": copied " + i, x.copy(s, i, 3, 0, 1), 1);
      due(what + ": came " + i, x.tell(3, 2, 0, 1), 1);
      due(what + ": number " + i, x.momentTold(x.count(2) - 1, 0), due[i]);
      x.undo();
    }
  }

  private static WhoseHare withBeast() {
    WhoseHare x = new WhoseHare();
    x.ground(0);
    x.ground(-1);
    x.beast(1, -1);
    return x;
  }

  private static void sheets() {
    WhoseHare x = withBeast();
    due("29: sheet -1", x.sheet(-1, 0, 1), WhoseHare.BAD);
    due("29: sheet 4", x.sheet(4, 0, 1), WhoseHare.BAD);
    due("29: sort 3", x.sheet(0, 3, 1), WhoseHare.BAD);
    due("29: sort -2", x.sheet(0, -2, 1), WhoseHare.BAD);
    due("29: 41", x.sheet(0, 0, 41), WhoseHare.BAD);
    due("29: a size below 0", x.sheet(0, 0, -1), -14);
    due("29: BAD ahead of it", x.sheet(4, 0, -1), WhoseHare.BAD);
    due("29: BAD ahead of it", x.sheet(0, 3, -1), WhoseHare.BAD);
    due("29: lowest", x.sheet(0, 2, LOW), -14);
    due("29: 0", x.sheet(0, 0, 0), 1);
    due("30: no place in it", x.cell(0, 0, 1), -12);
    due("29: 40", x.sheet(1, 2, 40), 1);
    due("30: the last place", x.cell(1, 39, 1), 1);
    due("30: none behind it", x.cell(1, 40, 1), -12);
    due("29: missing, n does not matter", x.sheet(1, -1, 41), 1);
    due("29: nor below 0", x.sheet(0, -1, -1), 1);
    due("30: nothing there", x.cell(1, 0, 1), -11);
    due("30: nor there", x.cell(0, 0, 1), -11);
    x.sheet(2, 2, 3);
    x.cell(2, 1, 9);
    due("29: a refusal leaves it", x.sheet(2, 2, 41), WhoseHare.BAD);
    numbers("29", x, 2, 0, 9, 0);
    x.sheet(2, 2, 3);
    numbers("29: all 0 anew", x, 2, 0, 0, 0);
  }

  private static void cells() {
    WhoseHare x = withBeast();
    due("30: sheet 4", x.cell(4, 0, 0), WhoseHare.BAD);
    due("30: sheet -1", x.cell(-1, 0, 0), WhoseHare.BAD);
    due("30: -11 ahead of -12", x.cell(0, -1, 0), -11);
    x.sheet(0, 2, 3);
    due("30: place 3", x.cell(0, 3, 0), -12);
    due("30: place -1", x.cell(0, -1, 0), -12);
    due("30: place 2", x.cell(0, 2, 500), 1);
    due("30: place 0", x.cell(0, 0, 3), 1);
    numbers("30", x, 0, 3, 0, 500);
  }

  private static int told(int sort, int v) {
    WhoseHare x = withBeast();
    x.sheet(0, sort, 5);
    x.cell(0, 0, v);
    return x.tell(0, sort, 0, 1) == 1 ? x.momentTold(0, 0) : -1;
  }

  private static void narrowCells() {
    due("30: a byte 127", told(0, 127), 127);
    due("30: a byte 128 is below 0", told(0, 128), -1);
    due("30: a byte 256", told(0, 256), 0);
    due("30: a byte 300", told(0, 300), 44);
    due("30: a byte -200", told(0, -200), 56);
    due("30: a short 300", told(1, 300), 300);
    due("30: a short 65536 + 700", told(1, 65536 + 700), 700);
    due("30: a short 32768 is below 0", told(1, 32768), -1);
    due("30: an int 999", told(2, 999), 999);
    due("30: an int 65536", told(2, 65536), -1);
  }

  private static void copies() {
    WhoseHare x = withBeast();
    due("31: sheet -1", x.copy(-1, 0, 0, 0, 0), WhoseHare.BAD);
    due("31: sheet 4", x.copy(0, 0, 4, 0, 0), WhoseHare.BAD);
    x.sheet(0, 2, 5);
    due("31: to a missing one", x.copy(0, 9, 1, 9, 9), -11);
    due("31: from a missing one", x.copy(1, 9, 0, 9, 9), -11);
    x.sheet(1, 1, 5);
    due("31: -13 ahead of -12", x.copy(0, 9, 1, 9, 9), -13);
    x.sheet(1, 2, 4);
    int[][] bad = {{-1, 0, 1}, {0, -1, 1}, {0, 0, -1}, {5, 0, 1}, {0, 4, 1}, {0, 0, 5}, {3, 0, 3}, {0, 2, 3}, {6, 0, 0},
        {0, 5, 0}, {HIGH, 0, 1}, {0, HIGH, 1}, {0, 0, HIGH}, {1, 1, HIGH}, {LOW, 0, 1}, {0, LOW, LOW}, {-1, 0, 0}};
    for (int[] c : bad) {
      due("31: " + c[0] + ", " + c[1] + ", " + c[2], x.copy(0, c[0], 1, c[1], c[2]), -12);
    }
    due("31: none from the ends", x.copy(0, 5, 1, 4, 0), 0);
    for (int i = 0; i < 5; i++) {
      x.cell(0, i, i + 10);
    }
    due("31: 3", x.copy(0, 2, 1, 1, 3), 3);
    numbers("31: to", x, 1, 0, 12, 13, 14);
    numbers("31: from", x, 0, 10, 11, 12, 13, 14);
    due("31: all 4", x.copy(0, 0, 1, 0, 4), 4);
    numbers("31: to", x, 1, 10, 11, 12, 13);
  }

  private static void copiesWithin() {
    WhoseHare x = withBeast();
    x.sheet(0, 2, 5);
    for (int i = 0; i < 5; i++) {
      x.cell(0, i, i);
    }
    due("31: up", x.copy(0, 0, 0, 1, 4), 4);
    numbers("31: as they were", x, 0, 0, 0, 1, 2, 3);
    due("31: down", x.copy(0, 1, 0, 0, 4), 4);
    numbers("31: as they were", x, 0, 0, 1, 2, 3, 3);
  }

  private static void row(WhoseHare x, int s, int at, int... row) {
    for (int k = 0; k < row.length; k++) {
      x.cell(s, at + k, row[k]);
    }
  }

  private static void tells() {
    WhoseHare x = withBeast();
    x.sheet(0, 2, 22);
    row(x, 0, 1, 5, 3, 0, 4, 0);
    row(x, 0, 6, 4, 3, 0, 5, 0);
    row(x, 0, 11, 7, 5, 0, 6, 0);
    row(x, 0, 16, 7, 6, 0, 10, 0);
    due("32: none", x.tell(0, 2, 1, 0), 0);
    due("32: the earlier and the one of 10 are left out", x.tell(0, 2, 1, 4), 2);
    due("26: two moments", x.count(2), 2);
    int[] due = {7, 5, 0, 6, 0, 0};
    for (int w = 0; w < 6; w++) {
      due("32: told " + w, x.momentTold(1, w), due[w]);
    }
    x = withBeast();
    x.sheet(2, 0, 40);
    for (int k = 0; k < 5; k++) {
      due("32: eight", x.tell(2, 0, 0, 8), k < 4 ? 8 : 0);
    }
    due("26: 32 moments", x.count(2), 32);
  }

  private static void tellsOutside() {
    WhoseHare x = withBeast();
    due("32: nothing there", x.tell(0, 0, 99, 1), -11);
    x.sheet(0, 2, 14);
    due("32: the third is cut off", x.tell(0, 2, 0, 3), -12);
    due("32: what stood ahead came", x.count(2), 2);
    due("32: at -1", x.tell(0, 2, -1, 2), -12);
    due("32: at -5", x.tell(0, 2, -5, 2), -12);
    due("32: at 14", x.tell(0, 2, 14, 1), -12);
    due("32: at 10", x.tell(0, 2, 10, 1), -12);
    due("32: none of these came", x.count(2), 2);
    due("32: at 9", x.tell(0, 2, 9, 1), 1);
    due("32: highest", x.tell(0, 2, HIGH, 8), -12);
    due("32: near it", x.tell(0, 2, HIGH - 4, 8), -12);
    due("32: lowest", x.tell(0, 2, LOW, 8), -12);
    due("26: three moments", x.count(2), 3);
  }

  private static void tellsBySorts() {
    WhoseHare x = withBeast();
    due("32: sheet 4", x.tell(4, 0, 0, 0), WhoseHare.BAD);
    due("32: sheet -1", x.tell(-1, 0, 0, 0), WhoseHare.BAD);
    due("32: sort 3", x.tell(0, 3, 0, 0), WhoseHare.BAD);
    due("32: sort -1", x.tell(0, -1, 0, 0), WhoseHare.BAD);
    due("32: n 9", x.tell(0, 0, 0, 9), WhoseHare.BAD);
    due("32: n -1", x.tell(0, 0, 0, -1), WhoseHare.BAD);
    due("32: n 8, missing", x.tell(0, 0, 0, 8), -11);
    for (int sort = 0; sort < 3; sort++) {
      x.sheet(0, sort, 5);
      for (int as = 0; as < 3; as++) {
        due("32: " + sort + " by " + as, x.tell(0, as, 0, 1), as == sort ? 1 : -13);
      }
      due("32: -13 ahead of -12", x.tell(0, (sort + 1) % 3, 9, 1), -13);
    }
  }

  private static void judges() {
    WhoseHare x = withBeast();
    due("19: beast 1", x.judge(1, 9), -5);
    due("19: beast -1", x.judge(-1, 0), -5);
    due("19: sheet 4", x.judge(0, 4), WhoseHare.BAD);
    due("19: sheet -1", x.judge(0, -1), WhoseHare.BAD);
    due("19: nothing there", x.judge(0, 0), -11);
    x.moment(1, 3, 0, 5, 0);
    x.moment(2, 8, 0, 5, 0);
    x.moment(3, 0, 0, 0, 0);
    x.sheet(0, 1, 3);
    due("19: one too few", x.judge(0, 0), WhoseHare.BAD);
    x.sheet(0, 1, 5);
    due("19: one too many", x.judge(0, 0), WhoseHare.BAD);
    for (int sort = 0; sort < 3; sort++) {
      x.sheet(0, sort, 4);
      due("19: at first", x.judge(0, 0), 0);
      x.cell(0, 0, -1);
      due("19: nobody's at first", x.judge(0, 0), 1);
      x.cell(0, 1, 5);
      due("19: then 5's", x.judge(0, 0), 2);
      x.cell(0, 2, -1);
      due("19: let go; 0's at last: all are right", x.judge(0, 0), -1);
      x.cell(0, 3, 1);
      due("19: it isn't 1's", x.judge(0, 0), 3);
    }
    WhoseHare y = withBeast();
    y.sheet(0, 0, 1);
    y.cell(0, 0, 255);
    due("19: without moments", y.judge(0, 0), -1);
  }

  private static void takens() {
    WhoseHare x = new WhoseHare();
    due("33: kind 7", x.taken(50, 7), WhoseHare.BAD);
    due("33: kind -1", x.taken(0, -1), WhoseHare.BAD);
    due("33: place 50", x.taken(50, 0), -12);
    due("33: place -1", x.taken(-1, 6), -12);
    due("33: nothing at 49", x.taken(49, 6), -11);
    due("33: nothing at 6", x.taken(6, 0), -11);
    x.ground(0);
    x.ground(3);
    x.beast(1, 2);
    due("33: the beast's home", x.taken(0, 6), 1);
    due("33: a beast is no claim", x.taken(0, 0), -13);
    due("33: no beast 1", x.taken(1, 6), -11);
    for (int w = 0; w < 4; w++) {
      x.moment(1, w, 0, 5 + w, 0);
    }
    int[] whose = {2, 3, 5, 6, 7, 8};
    boolean[][] is = {{true, false, false, true, false, true}, {true, false, false, false, true, false},
        {true, false, false, false, false, false}, {true, true, false, false, false, false},
        {true, true, true, false, false, false}, {true, false, false, true, false, false}};
    for (int i = 0; i < 6; i++) {
      for (int kind = 0; kind < 6; kind++) {
        due("33: claim " + i + " for " + kind, x.taken(6 + i, kind), is[i][kind] ? whose[i] : -13);
      }
      due("33: a claim is no beast", x.taken(6 + i, 6), -13);
    }
    due("33: no claim 6", x.taken(12, 0), -11);
    x.moment(2, 6, 0, 9, 0);
    x.moment(2, 9, 0, 8, 4);
    due("33: ended ones lie there, too", x.taken(9, 1), 6);
    due("33: behind all moments", x.taken(11, 3), 4);
  }
}
