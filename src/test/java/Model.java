import java.util.ArrayList;
import java.util.List;
import java.util.Map;
import java.util.TreeSet;
import java.util.function.ToIntFunction;

/**
 * The document once more, in another shape: kinds as classes one above the other, texts as trees, all moments lived
 * anew for every question. ModelTest holds WhoseHare's answers against these.
 */
final class Model {
  static final int NONE = -1, BAD = -2, STATE = -3, FULL = -4;
  static final long NO = -(1L << 62);

  record Moment(int time, int what, int beast, int by, int number) { }

  record Beast(int home, int keeper) { }

  record Text(ToIntFunction<Map<String, Integer>> worth, ToIntFunction<Map<String, Integer>> follow) { }

  record Image(List<Integer> owners, int moments, TreeSet<Integer> unsure, int law) { }

  final List<Integer> owners = new ArrayList<>();
  final List<Beast> beasts = new ArrayList<>();
  final List<Moment> moments = new ArrayList<>();
  final TreeSet<Integer> unsure = new TreeSet<>();
  final List<Text> texts = new ArrayList<>();
  final StringBuilder tape = new StringBuilder();
  final Number[][] sheets = new Number[4][];
  int law = 0;
  Image image = null;

  Model() {
    texts.add((Text) new ModelText("worth weight * 10 + ground * 5 ; follow 1 ;").read());
  }

  // ---- kinds

  class Claim {
    final State s;
    int whose;
    final int beast, since, badly, place;
    boolean ended = false;
    Integer lostAt = null;

    Claim(State s, int whose, int beast, int since, int badly) {
      this.s = s;
      this.whose = whose;
      this.beast = beast;
      this.since = since;
      this.badly = badly;
      this.place = s.at[beast];
    }

    int kind() {
      return 0;
    }

    boolean isLost() {
      return lostAt != null;
    }

    boolean stands() {
      return !ended && !isLost();
    }

    int weight() {
      return 1;
    }

    boolean yields() {
      return true;
    }
  }

  class Chase extends Claim {
    Chase(State s, int whose, int beast, int since, int badly) {
      super(s, whose, beast, since, badly);
    }

    @Override int kind() {
      return 1;
    }

    @Override boolean stands() {
      return super.stands() && mayFollow(texts.get(s.law), whose, s.at[beast], beast);
    }

    @Override int weight() {
      return super.weight() + 2;
    }
  }

  class Wound extends Chase {
    Wound(State s, int whose, int beast, int since, int badly) {
      super(s, whose, beast, since, badly);
    }

    @Override int kind() {
      return 2;
    }

    @Override boolean isLost() {
      return super.isLost() && s.now > lostAt + badly;
    }

    @Override int weight() {
      return super.weight() + badly;
    }
  }

  class Hold extends Claim {
    Hold(State s, int whose, int beast, int since, int badly) {
      super(s, whose, beast, since, badly);
    }

    @Override int kind() {
      return 3;
    }

    @Override boolean isLost() {
      return false;
    }

    @Override int weight() {
      return super.weight() + 9 + badly;
    }

    @Override boolean yields() {
      return false;
    }
  }

  class OfGround extends Claim {
    OfGround(State s, int whose, int beast) {
      super(s, whose, beast, s.now, 0);
    }

    @Override int kind() {
      return 4;
    }

    @Override boolean stands() {
      return super.stands() && s.at[beast] == place && owners.get(place) == whose
          && s.claims.stream().noneMatch(c -> c.kind() == 3 && c.beast == beast && c.stands());
    }

    @Override int weight() {
      return super.weight() + 3;
    }

    @Override boolean yields() {
      return false;
    }
  }

  class OfHome extends Hold {
    OfHome(State s, int whose, int beast) {
      super(s, whose, beast, 0, 0);
    }

    @Override int kind() {
      return 5;
    }

    @Override boolean stands() {
      boolean near = s.at[beast] == beasts.get(beast).home || s.now <= s.away[beast] + 30;
      return super.stands() && near;
    }

    @Override int weight() {
      return super.weight() - 4;
    }
  }

  // ---- what stands behind some moments, under a law

  class State {
    final int law;
    final int[] at = new int[6], away = new int[6];
    final boolean[] dead = new boolean[6];
    final List<Claim> claims = new ArrayList<>();
    int now = 0;

    State(List<Moment> lived, int law) {
      this.law = law;
      for (int b = 0; b < beasts.size(); b++) {
        at[b] = beasts.get(b).home;
        if (beasts.get(b).keeper != -1) {
          claims.add(new OfHome(this, beasts.get(b).keeper, b));
        }
        ofPlace(b);
      }
      for (Moment m : lived) {
        now = m.time;
        live(m);
      }
    }

    void ofPlace(int b) {
      int p = owners.get(at[b]);
      if (p != -1) {
        claims.add(new OfGround(this, p, b));
      }
    }

    void live(Moment m) {
      int b = m.beast;
      List<Claim> his = claims.stream().filter(c -> c.beast == b && c.whose == m.by).toList();
      List<Claim> hisHolds = his.stream().filter(c -> c.kind() == 3).toList();
      if (m.what == 0 && !dead[b]) {
        claims.add(new Claim(this, m.by, b, now, 0));
      } else if (m.what == 1 && !dead[b]) {
        claims.add(new Chase(this, m.by, b, now, 0));
      } else if (m.what == 2 && !dead[b]) {
        claims.add(new Wound(this, m.by, b, now, m.number));
      } else if (m.what == 3 || m.what == 7) {
        claims.add(new Hold(this, m.by, b, now, m.what == 7 ? 5 : 0));
      } else if (m.what == 4) {
        his.stream().filter(c -> c.lostAt == null).forEach(c -> c.lostAt = now);
      } else if (m.what == 5 && !dead[b] && at[b] != m.number) {
        away[b] = at[b] == beasts.get(b).home ? now : away[b];
        at[b] = m.number;
        ofPlace(b);
      } else if (m.what == 6) {
        claims.stream().filter(c -> c.beast == b && c.whose != m.by && c.yields()).forEach(c -> c.ended = true);
        dead[b] = true;
      } else if (m.what == 8) {
        hisHolds.forEach(c -> c.ended = true);
      } else if (m.what == 9) {
        hisHolds.forEach(c -> c.whose = m.number);
      }
    }

    int worth(Claim c) {
      Map<String, Integer> names = Map.of("kind", c.kind(), "since", now - c.since, "weight", c.weight(),
          "ground", owners.get(at[c.beast]) == c.whose ? 1 : 0, "tame", tame(c.beast), "who", c.whose);
      int worth = texts.get(law).worth.applyAsInt(names);
      return worth < 0 ? 0 : worth > 9999 ? 9999 : worth;
    }

    /** The number of the claim by which a beast is somebody's; -1: none. */
    int why(int b) {
      int first = -1;
      for (int i = claims.size() - 1; i >= 0; i--) {
        Claim c = claims.get(i);
        if (c.beast == b && c.stands() && worth(c) > 0 && (first < 0 || worth(c) >= worth(claims.get(first)))) {
          first = i;
        }
      }
      return first;
    }

    int whose(int b) {
      return why(b) < 0 ? -1 : claims.get(why(b)).whose;
    }

    boolean quarrel(int b) {
      int i = why(b);
      return i >= 0 && claims.stream().anyMatch(c -> c.beast == b && c.stands()
          && c.whose != claims.get(i).whose && worth(c) == worth(claims.get(i)));
    }
  }

  boolean mayFollow(Text t, int p, int g, int b) {
    Map<String, Integer> names = Map.of("kind", -1, "since", 0, "weight", owners.get(g) + 1,
        "ground", owners.get(g) == p ? 1 : 0, "tame", tame(b), "who", p);
    return t.follow.applyAsInt(names) != 0;
  }

  int tame(int b) {
    return beasts.get(b).keeper == -1 ? 0 : 1;
  }

  State behind(int n) {
    return new State(moments.subList(0, n), law);
  }

  State without(int bits) {
    List<Moment> lived = new ArrayList<>();
    List<Integer> order = new ArrayList<>(unsure);
    for (int m = 0; m < moments.size(); m++) {
      int k = order.indexOf(m);
      if (k < 0 || (bits & 1 << k) == 0) {
        lived.add(moments.get(m));
      }
    }
    return new State(lived, law);
  }

  // ---- calls

  private static boolean in(int i, int from, int to) {
    return from <= i && i <= to;
  }

  private boolean isBeast(int b) {
    return in(b, 0, beasts.size() - 1);
  }

  private boolean isCount(int n) {
    return in(n, 0, moments.size());
  }

  int ground(int p) {
    if (!in(p, -1, 9)) return BAD;
    if (owners.size() == 8) return FULL;
    owners.add(p);
    return owners.size() - 1;
  }

  int owns(int g, int p) {
    if (!in(g, 0, owners.size() - 1)) return -5;
    if (!in(p, -1, 9)) return -7;
    return owners.set(g, p);
  }

  int beast(int g, int p) {
    if (!in(g, 0, owners.size() - 1)) return NONE;
    if (!in(p, -1, 9)) return BAD;
    if (beasts.size() == 6) return FULL;
    beasts.add(new Beast(g, p));
    return beasts.size() - 1;
  }

  int moment(int t, int w, int b, int p, int n) {
    if (!isBeast(b)) return NONE;
    int last = moments.isEmpty() ? 0 : moments.get(moments.size() - 1).time;
    if (!in(t, last, 999) || !in(w, 0, 9) || !in(p, 0, 9) || !in(n, 0, w == 5 ? owners.size() - 1 : 9)) return BAD;
    if (moments.size() == 32) return FULL;
    moments.add(new Moment(t, w, b, p, n));
    return moments.size() - 1;
  }

  int undo() {
    if (moments.isEmpty()) return STATE;
    unsure.remove(moments.size() - 1);
    return moments.remove(moments.size() - 1).what;
  }

  int unsure(int m, int is) {
    if (!in(m, 0, moments.size() - 1)) return NONE;
    if (!in(is, 0, 1)) return BAD;
    boolean was = unsure.contains(m);
    if (is == 1 && !was && unsure.size() == 6) return FULL;
    if (is == 1) unsure.add(m); else unsure.remove(m);
    return was ? 1 : 0;
  }

  int momentTold(int m, int w) {
    if (!in(m, 0, moments.size() - 1)) return -5;
    if (!in(w, 0, 5)) return -7;
    Moment it = moments.get(m);
    return new int[] {it.time, it.what, it.beast, it.by, it.number, unsure.contains(m) ? 1 : 0}[w];
  }

  int feed(long w, int n) {
    if (!in(n, 1, 8)) return BAD;
    if (tape.length() + n > 160) return FULL;
    for (int k = n; k > 0; k--) {
      tape.append((char) (w >>> 8 * (k - 1) & 255));
    }
    return tape.length();
  }

  int text() {
    if (texts.size() == 6) return FULL;
    Object read = new ModelText(tape.toString()).read();
    tape.setLength(0);
    if (read instanceof Integer fault) return -100 - fault;
    texts.add((Text) read);
    return texts.size() - 1;
  }

  int force(int t) {
    if (!in(t, 0, texts.size() - 1)) return BAD;
    int was = law;
    law = t;
    return was;
  }

  int follow(int p, int g, int b) {
    if (!in(p, 0, 9) || !in(g, 0, owners.size() - 1) || !isBeast(b)) return BAD;
    return mayFollow(texts.get(law), p, g, b) ? 1 : 0;
  }

  int claims(int n) {
    return isCount(n) ? behind(n).claims.size() : BAD;
  }

  int claimTold(int n, int i, int w) {
    if (!isCount(n)) return BAD;
    State s = behind(n);
    if (!in(i, 0, s.claims.size() - 1)) return -5;
    if (!in(w, 0, 7)) return -7;
    Claim c = s.claims.get(i);
    return new int[] {
        c.kind(), c.whose, c.beast, c.since, c.badly, c.stands() ? 1 : 0, c.weight(), s.worth(c)}[w];
  }

  int whoseIs(int b, int n) {
    return !isBeast(b) ? -5 : !isCount(n) ? -7 : behind(n).whose(b);
  }

  int why(int b, int n) {
    return !isBeast(b) ? -5 : !isCount(n) ? -7 : behind(n).why(b);
  }

  int where(int b, int n, int w) {
    if (!isBeast(b)) return -5;
    if (!isCount(n) || !in(w, 0, 2)) return -7;
    State s = behind(n);
    return w == 0 ? s.at[b] : w == 1 ? s.away[b] : s.dead[b] ? 1 : 0;
  }

  private int nobodyUnder(int b, int t) {
    int many = 0;
    for (int n = 0; n <= moments.size(); n++) {
      many += new State(moments.subList(0, n), t).why(b) < 0 ? 1 : 0;
    }
    return many;
  }

  private int quarrelUnder(int b, int t) {
    int many = 0;
    for (int n = 0; n <= moments.size(); n++) {
      many += new State(moments.subList(0, n), t).quarrel(b) ? 1 : 0;
    }
    return many;
  }

  int nobody(int b) {
    return isBeast(b) ? nobodyUnder(b, law) : -5;
  }

  int quarrel(int b) {
    return isBeast(b) ? quarrelUnder(b, law) : -5;
  }

  int custom(int b) {
    if (!isBeast(b)) return -5;
    int best = 0;
    for (int t = 1; t < texts.size(); t++) {
      int less = Integer.compare(quarrelUnder(b, t), quarrelUnder(b, best));
      if (less < 0 || (less == 0 && nobodyUnder(b, t) < nobodyUnder(b, best))) {
        best = t;
      }
    }
    return best;
  }

  int judge(int b, int s) {
    if (!isBeast(b)) return -5;
    if (!in(s, 0, 3)) return BAD;
    if (sheets[s] == null) return -11;
    if (sheets[s].length != moments.size() + 1) return BAD;
    for (int n = 0; n <= moments.size(); n++) {
      if (sheets[s][n].intValue() != behind(n).whose(b)) return n;
    }
    return -1;
  }

  int may(int b) {
    if (!isBeast(b)) return -5;
    int bits = 0;
    for (int gone = 0; gone < 1 << unsure.size(); gone++) {
      int p = without(gone).whose(b);
      bits |= p < 0 ? 1024 : 1 << p;
    }
    return bits;
  }

  int hangs(int b) {
    if (!isBeast(b)) return -5;
    int bits = 0;
    for (int k = 0; k < unsure.size(); k++) {
      bits |= without(1 << k).whose(b) != without(0).whose(b) ? 1 << k : 0;
    }
    return bits;
  }

  int least(int b, int p) {
    if (!isBeast(b) || !in(p, 0, 9)) return -5;
    for (int many = 0; many <= unsure.size(); many++) {
      for (int gone = 0; gone < 1 << unsure.size(); gone++) {
        if (Integer.bitCount(gone) == many && without(gone).whose(b) == p) return gone;
      }
    }
    return -1;
  }

  long share(int b, int n, int p, int part) {
    if (!isBeast(b) || !isCount(n) || !in(p, 0, 9) || !in(part, 0, 1)) return NO;
    State s = behind(n);
    List<Claim> standing = s.claims.stream().filter(c -> c.beast == b && c.stands()).toList();
    int all = standing.stream().mapToInt(s::worth).sum();
    int own = standing.stream().filter(c -> c.whose == p).mapToInt(s::worth).sum();
    if (all == 0) return part;
    int d = java.math.BigInteger.valueOf(all).gcd(java.math.BigInteger.valueOf(own)).intValue();
    return part == 0 ? own / d : all / d;
  }

  int count(int w) {
    if (!in(w, 0, 6)) return BAD;
    return new int[] {
        owners.size(), beasts.size(), moments.size(), unsure.size(), texts.size(), law, tape.length()}[w];
  }

  int image() {
    image = new Image(new ArrayList<>(owners), moments.size(), new TreeSet<>(unsure), law);
    return moments.size();
  }

  int back() {
    if (image == null) return STATE;
    for (int g = 0; g < image.owners.size(); g++) {
      owners.set(g, image.owners.get(g));
    }
    while (moments.size() > image.moments) {
      moments.remove(moments.size() - 1);
    }
    unsure.clear();
    unsure.addAll(image.unsure.headSet(moments.size()));
    law = image.law;
    return moments.size();
  }

  int sheet(int s, int sort, int n) {
    if (!in(s, 0, 3) || !in(sort, -1, 2) || (sort != -1 && n > 40)) return BAD;
    if (sort != -1 && n < 0) return -14;
    sheets[s] = sort == -1 ? null : sort == 0 ? new Byte[n] : sort == 1 ? new Short[n] : new Integer[n];
    for (int i = 0; sort != -1 && i < n; i++) {
      cell(s, i, 0);
    }
    return 1;
  }

  private static int sortOf(Number[] row) {
    return row instanceof Byte[] ? 0 : row instanceof Short[] ? 1 : 2;
  }

  int cell(int s, int i, int v) {
    if (!in(s, 0, 3)) return BAD;
    if (sheets[s] == null) return -11;
    if (!in(i, 0, sheets[s].length - 1)) return -12;
    int sort = sortOf(sheets[s]);
    if (sort == 0) {
      sheets[s][i] = (byte) v;
    } else if (sort == 1) {
      sheets[s][i] = (short) v;
    } else {
      sheets[s][i] = v;
    }
    return 1;
  }

  int copy(int s, int i, int other, int j, int n) {
    if (!in(s, 0, 3) || !in(other, 0, 3)) return BAD;
    if (sheets[s] == null || sheets[other] == null) return -11;
    if (sortOf(sheets[s]) != sortOf(sheets[other])) return -13;
    try {
      System.arraycopy(sheets[s], i, sheets[other], j, n);
      return n;
    } catch (IndexOutOfBoundsException outside) {
      return -12;
    }
  }

  int tell(int s, int sort, int at, int n) {
    if (!in(s, 0, 3) || !in(sort, 0, 2) || !in(n, 0, 8)) return BAD;
    if (sheets[s] == null) return -11;
    if (sortOf(sheets[s]) != sort) return -13;
    int came = 0;
    for (long i = at; i < (long) at + 5L * n; i += 5) {
      if (i < 0 || i + 5 > sheets[s].length) return -12;
      int[] v = new int[5];
      for (int k = 0; k < 5; k++) {
        v[k] = sheets[s][(int) i + k].intValue();
      }
      came += moment(v[0], v[1], v[2], v[3], v[4]) >= 0 ? 1 : 0;
    }
    return came;
  }

  int taken(int i, int kind) {
    if (!in(kind, 0, 6)) return BAD;
    if (!in(i, 0, 49)) return -12;
    List<Claim> all = behind(moments.size()).claims;
    Object thing = i < 6 ? (i < beasts.size() ? beasts.get(i) : null) : i - 6 < all.size() ? all.get(i - 6) : null;
    if (thing == null) return -11;
    Class<?>[] kinds = {
        Claim.class, Chase.class, Wound.class, Hold.class, OfGround.class, OfHome.class, Beast.class};
    if (!kinds[kind].isInstance(thing)) return -13;
    return thing instanceof Beast b ? b.home : ((Claim) thing).whose;
  }
}
