import java.util.Arrays;

/** Whose is the hare: beasts on grounds, moments, the claims that they make and end, and a law that weighs them. */
public final class WhoseHare {
  public static final int NONE = -1, BAD = -2, STATE = -3, FULL = -4;
  public static final long NO = -4611686018427387904L;

  // Refusals that the document tells by their numbers alone.
  private static final int NO_SUCH = -5, NO_WHAT = -7;
  private static final int MISSING = -11, OUTSIDE = -12, UNLIKE = -13, BELOW = -14;
  private static final int FAULT_BASE = -100;

  private static final int NOBODY = -1, NEVER = -1;
  private static final int PEOPLE = 10, GROUNDS = 8, BEASTS = 6, MOMENTS = 32, CLAIMS = 44;
  private static final int TIMES = 1000, NUMBERS = 10, UNSURE_MOST = 6;
  private static final int TEXTS = 6, TAPE = 160, DIGITS = 4, OPEN_MOST = 5;
  private static final int SHEETS = 4, CELLS = 40, SORTS = 3, TELL_MOST = 8;
  private static final int AWAY_MOST = 30, WORTH_MOST = 9999, TAKEN_BADLY = 5;

  // What a moment is.
  private static final int SEEN = 0, STARTED = 1, WOUNDED = 2, HELD = 3, LOST = 4;
  private static final int CROSSES = 5, KILLED = 6, TAKEN = 7, LET_GO = 8, GIVEN = 9;

  // Kinds of claims; BEAST is what taken() asks for beside them.
  private static final int CLAIM = 0, CHASE = 1, WOUND = 2, HOLD = 3, GROUND = 4, HOME = 5, BEAST = 6;

  // A text's code: a number stands for itself, the rest is below 0.
  private static final int KIND_NAME = -1, SINCE_NAME = -2, WEIGHT_NAME = -3;
  private static final int GROUND_NAME = -4, TAME_NAME = -5, WHO_NAME = -6, NAMES = 6;
  private static final int NEGATE = -7, DENY = -8;
  private static final int MULTIPLY = -9, ADD = -10, SUBTRACT = -11, LESS = -12, SAME = -13;
  private static final int BOTH = -14, EITHER = -15;

  // Tokens; a sign is its own byte, above all of these.
  private static final int END = 0, BROKEN = 1, NUMBER_TOKEN = 2, NAME_TOKEN = 3;
  private static final int WORTH = 4, FOLLOW = 5, OR = 6, AND = 7, NOT = 8;

  // The names, as their codes go down from KIND_NAME; behind them the keys, as their tokens go up from WORTH.
  private static final String WORDS = "kind since weight ground tame who worth follow or and not ";

  private final Land land;
  private final Diary diary;
  private final Reader reader;
  private final Scales scales;
  private final Scene scene;
  private final Text[] texts;
  private final Sheet[] sheets;
  private final Image kept;
  private int textCount;
  private int law;

  public WhoseHare() {
    land = new Land();
    diary = new Diary();
    reader = new Reader();
    Text first = new Text(
        new int[] {WEIGHT_NAME, 10, MULTIPLY, GROUND_NAME, 5, MULTIPLY, ADD}, new int[] {1});
    scales = new Scales(first);
    scene = new Scene(land, diary, scales);
    texts = new Text[TEXTS];
    texts[0] = first;
    textCount = 1;
    law = 0;
    sheets = new Sheet[SHEETS];
    for (int s = 0; s < SHEETS; s++) {
      sheets[s] = new Sheet();
    }
    kept = new Image();
  }

  // ---- grounds, beasts, moments

  public int ground(int p) {
    if (!isOneOrNobody(p)) {
      return BAD;
    }
    return land.addGround(p);
  }

  public int owns(int g, int p) {
    if (!land.hasGround(g)) {
      return NO_SUCH;
    }
    if (!isOneOrNobody(p)) {
      return NO_WHAT;
    }
    int was = land.owner[g];
    land.owner[g] = p;
    return was;
  }

  public int beast(int g, int p) {
    if (!land.hasGround(g)) {
      return NONE;
    }
    if (!isOneOrNobody(p)) {
      return BAD;
    }
    return land.addBeast(g, p);
  }

  public int moment(int t, int w, int b, int p, int n) {
    if (!land.hasBeast(b)) {
      return NONE;
    }
    if (t < diary.lastTime() || t >= TIMES || w < SEEN || w > GIVEN || !isOne(p)) {
      return BAD;
    }
    if (n < 0 || n >= NUMBERS || (w == CROSSES && !land.hasGround(n))) {
      return BAD;
    }
    return diary.add(t, w, b, p, n);
  }

  public int undo() {
    return diary.dropLast();
  }

  public int unsure(int m, int is) {
    if (!diary.has(m)) {
      return NONE;
    }
    if (is != 0 && is != 1) {
      return BAD;
    }
    int was = diary.unsure[m];
    if (is > was && diary.countUnsure() >= UNSURE_MOST) {
      return FULL;
    }
    diary.unsure[m] = is;
    return was;
  }

  public int momentTold(int m, int w) {
    if (!diary.has(m)) {
      return NO_SUCH;
    }
    switch (w) {
      case 0: return diary.time[m];
      case 1: return diary.what[m];
      case 2: return diary.beast[m];
      case 3: return diary.by[m];
      case 4: return diary.number[m];
      case 5: return diary.unsure[m];
      default: return NO_WHAT;
    }
  }

  // ---- the law

  public int feed(long w, int n) {
    if (n < 1 || n > 8) {
      return BAD;
    }
    return reader.append(w, n);
  }

  public int text() {
    if (textCount >= TEXTS) {
      return FULL;
    }
    reader.readText();
    reader.size = 0;
    if (reader.fault >= 0) {
      return FAULT_BASE - reader.fault;
    }
    texts[textCount] = reader.textRead();
    return textCount++;
  }

  public int force(int t) {
    if (t < 0 || t >= textCount) {
      return BAD;
    }
    int was = law;
    law = t;
    useText(t);
    return was;
  }

  public int follow(int p, int g, int b) {
    if (!isOne(p) || !land.hasGround(g) || !land.hasBeast(b)) {
      return BAD;
    }
    return scene.mayFollow(p, g, b) ? 1 : 0;
  }

  // ---- whose

  public int claims(int n) {
    if (!diary.reaches(n)) {
      return BAD;
    }
    scene.reach(n);
    return scene.size;
  }

  public int claimTold(int n, int i, int w) {
    if (!diary.reaches(n)) {
      return BAD;
    }
    scene.reach(n);
    if (!scene.has(i)) {
      return NO_SUCH;
    }
    switch (w) {
      case 0: return scene.kind[i];
      case 1: return scene.whose[i];
      case 2: return scene.beast[i];
      case 3: return scene.since[i];
      case 4: return scene.badly[i];
      case 5: return scene.stands(i) ? 1 : 0;
      case 6: return scene.weight(i);
      case 7: return scene.worth(i);
      default: return NO_WHAT;
    }
  }

  public int whoseIs(int b, int n) {
    if (!land.hasBeast(b)) {
      return NO_SUCH;
    }
    if (!diary.reaches(n)) {
      return NO_WHAT;
    }
    scene.reach(n);
    return scene.possessor(b);
  }

  public int why(int b, int n) {
    if (!land.hasBeast(b)) {
      return NO_SUCH;
    }
    if (!diary.reaches(n)) {
      return NO_WHAT;
    }
    scene.reach(n);
    scene.weigh(b);
    return scene.best;
  }

  public int where(int b, int n, int w) {
    if (!land.hasBeast(b)) {
      return NO_SUCH;
    }
    if (!diary.reaches(n)) {
      return NO_WHAT;
    }
    scene.reach(n);
    switch (w) {
      case 0: return scene.at[b];
      case 1: return scene.away[b];
      case 2: return scene.dead[b] ? 1 : 0;
      default: return NO_WHAT;
    }
  }

  public int nobody(int b) {
    if (!land.hasBeast(b)) {
      return NO_SUCH;
    }
    scene.tally(b);
    return scene.unowned;
  }

  public int judge(int b, int s) {
    if (!land.hasBeast(b)) {
      return NO_SUCH;
    }
    if (!isSheet(s)) {
      return BAD;
    }
    Sheet told = sheets[s];
    if (told.isMissing()) {
      return MISSING;
    }
    if (told.size != diary.size + 1) {
      return BAD;
    }
    scene.begin();
    for (int n = 0; n < told.size; n++) {
      if (n > 0) {
        scene.live(n - 1);
      }
      if (scene.possessor(b) != told.row[n]) {
        return n;
      }
    }
    return -1;
  }

  // ---- what nobody saw

  public int may(int b) {
    if (!land.hasBeast(b)) {
      return NO_SUCH;
    }
    int ways = 1 << diary.countUnsure();
    int bits = 0;
    for (int gone = 0; gone < ways; gone++) {
      int one = scene.possessorWithout(b, gone);
      bits |= 1 << (one == NOBODY ? PEOPLE : one);
    }
    return bits;
  }

  public int hangs(int b) {
    if (!land.hasBeast(b)) {
      return NO_SUCH;
    }
    int unsureOnes = diary.countUnsure();
    int one = scene.possessorWithout(b, 0);
    int bits = 0;
    for (int k = 0; k < unsureOnes; k++) {
      if (scene.possessorWithout(b, 1 << k) != one) {
        bits |= 1 << k;
      }
    }
    return bits;
  }

  public int least(int b, int p) {
    if (!land.hasBeast(b) || !isOne(p)) {
      return NO_SUCH;
    }
    int ways = 1 << diary.countUnsure();
    int fewest = -1;
    for (int gone = 0; gone < ways; gone++) {
      boolean fewer = fewest < 0 || Integer.bitCount(gone) < Integer.bitCount(fewest);
      if (fewer && scene.possessorWithout(b, gone) == p) {
        fewest = gone;
      }
    }
    return fewest;
  }

  // ---- shares, quarrels

  public long share(int b, int n, int p, int part) {
    if (!land.hasBeast(b) || !diary.reaches(n) || !isOne(p) || (part != 0 && part != 1)) {
      return NO;
    }
    scene.reach(n);
    int above = 0;
    int below = 0;
    for (int i = 0; i < scene.size; i++) {
      if (scene.beast[i] == b && scene.stands(i)) {
        int worth = scene.worth(i);
        below += worth;
        above += scene.whose[i] == p ? worth : 0;
      }
    }
    int common = commonDivisor(below, above);
    if (common == 0) {
      return part;
    }
    return part == 0 ? above / common : below / common;
  }

  public int quarrel(int b) {
    if (!land.hasBeast(b)) {
      return NO_SUCH;
    }
    scene.tally(b);
    return scene.quarrels;
  }

  public int custom(int b) {
    if (!land.hasBeast(b)) {
      return NO_SUCH;
    }
    int chosen = 0;
    int quarrels = 0;
    int unowned = 0;
    for (int t = 0; t < textCount; t++) {
      useText(t);
      scene.tally(b);
      boolean calmer = scene.quarrels < quarrels
          || (scene.quarrels == quarrels && scene.unowned < unowned);
      if (t == 0 || calmer) {
        chosen = t;
        quarrels = scene.quarrels;
        unowned = scene.unowned;
      }
    }
    useText(law);
    return chosen;
  }

  public int count(int w) {
    switch (w) {
      case 0: return land.grounds;
      case 1: return land.beasts;
      case 2: return diary.size;
      case 3: return diary.countUnsure();
      case 4: return textCount;
      case 5: return law;
      case 6: return reader.size;
      default: return BAD;
    }
  }

  public int image() {
    kept.keep(land, diary, law);
    return diary.size;
  }

  public int back() {
    if (!kept.isKept) {
      return STATE;
    }
    kept.restore(land, diary);
    law = kept.law;
    useText(law);
    return diary.size;
  }

  // ---- the host

  public int sheet(int s, int sort, int n) {
    if (!isSheet(s) || sort < Sheet.NO_SORT || sort >= SORTS) {
      return BAD;
    }
    if (sort == Sheet.NO_SORT) {
      sheets[s].become(sort, 0);
      return 1;
    }
    if (n > CELLS) {
      return BAD;
    }
    if (n < 0) {
      return BELOW;
    }
    sheets[s].become(sort, n);
    return 1;
  }

  public int cell(int s, int i, int v) {
    if (!isSheet(s)) {
      return BAD;
    }
    Sheet to = sheets[s];
    if (to.isMissing()) {
      return MISSING;
    }
    if (!to.has(i)) {
      return OUTSIDE;
    }
    to.put(i, v);
    return 1;
  }

  public int copy(int s, int i, int other, int j, int n) {
    if (!isSheet(s) || !isSheet(other)) {
      return BAD;
    }
    Sheet from = sheets[s];
    Sheet to = sheets[other];
    if (from.isMissing() || to.isMissing()) {
      return MISSING;
    }
    if (from.sort != to.sort) {
      return UNLIKE;
    }
    if (!from.hasRun(i, n) || !to.hasRun(j, n)) {
      return OUTSIDE;
    }
    System.arraycopy(from.row, i, to.row, j, n);
    return n;
  }

  public int tell(int s, int sort, int at, int n) {
    if (!isSheet(s) || sort < 0 || sort >= SORTS || n < 0 || n > TELL_MOST) {
      return BAD;
    }
    Sheet told = sheets[s];
    if (told.isMissing()) {
      return MISSING;
    }
    if (told.sort != sort) {
      return UNLIKE;
    }
    int came = 0;
    for (int k = 0; k < n; k++) {
      // at was inside for the moment ahead of this one, so the sum can't wrap
      int i = at + 5 * k;
      if (!told.hasRun(i, 5)) {
        return OUTSIDE;
      }
      int[] row = told.row;
      if (moment(row[i], row[i + 1], row[i + 2], row[i + 3], row[i + 4]) >= 0) {
        came++;
      }
    }
    return came;
  }

  public int taken(int i, int kind) {
    if (kind < CLAIM || kind > BEAST) {
      return BAD;
    }
    if (i < 0 || i >= BEASTS + CLAIMS) {
      return OUTSIDE;
    }
    if (i < BEASTS) {
      return beastTaken(i, kind);
    }
    return claimTaken(i - BEASTS, kind);
  }

  // ---- what the calls share

  private int beastTaken(int b, int kind) {
    if (!land.hasBeast(b)) {
      return MISSING;
    }
    return kind == BEAST ? land.home[b] : UNLIKE;
  }

  private int claimTaken(int i, int kind) {
    scene.reach(diary.size);
    if (!scene.has(i)) {
      return MISSING;
    }
    return isOfKind(scene.kind[i], kind) ? scene.whose[i] : UNLIKE;
  }

  private void useText(int t) {
    if (t >= 0 && t < textCount && texts[t] != null) {
      scales.text = texts[t];
    }
  }

  private static boolean isOne(int p) {
    return p >= 0 && p < PEOPLE;
  }

  private static boolean isOneOrNobody(int p) {
    return p == NOBODY || isOne(p);
  }

  private static boolean isSheet(int s) {
    return s >= 0 && s < SHEETS;
  }

  private static boolean isOfKind(int kind, int wanted) {
    int k = kind;
    for (int up = 0; up < 3; up++) {
      if (k == wanted) {
        return true;
      }
      k = kindAbove(k);
    }
    return false;
  }

  private static int kindAbove(int kind) {
    switch (kind) {
      case CHASE: return CLAIM;
      case WOUND: return CHASE;
      case HOLD: return CLAIM;
      case GROUND: return CLAIM;
      case HOME: return HOLD;
      default: return -1;
    }
  }

  /** The greatest common divisor of two numbers from 0 on; 0 of two zeros. */
  private static int commonDivisor(int one, int other) {
    int a = one;
    int b = other;
    // Euclid's way needs fewer than 50 steps for ints.
    for (int k = 0; k < 64 && b != 0; k++) {
      int rest = a % b;
      a = b;
      b = rest;
    }
    return a;
  }

  /** Grounds and beasts. */
  private static final class Land {
    final int[] owner = new int[GROUNDS];
    final int[] home = new int[BEASTS];
    final int[] keeper = new int[BEASTS];
    int grounds;
    int beasts;

    boolean hasGround(int g) {
      return g >= 0 && g < grounds;
    }

    boolean hasBeast(int b) {
      return b >= 0 && b < beasts;
    }

    int ownerOf(int g) {
      return g >= 0 && g < grounds ? owner[g] : NOBODY;
    }

    boolean isTame(int b) {
      return b >= 0 && b < beasts && keeper[b] != NOBODY;
    }

    int addGround(int p) {
      if (grounds >= GROUNDS) {
        return FULL;
      }
      owner[grounds] = p;
      return grounds++;
    }

    int addBeast(int g, int p) {
      if (beasts >= BEASTS) {
        return FULL;
      }
      home[beasts] = g;
      keeper[beasts] = p;
      return beasts++;
    }
  }

  /** All moments, one behind the other. */
  private static final class Diary {
    final int[] time = new int[MOMENTS];
    final int[] what = new int[MOMENTS];
    final int[] beast = new int[MOMENTS];
    final int[] by = new int[MOMENTS];
    final int[] number = new int[MOMENTS];
    final int[] unsure = new int[MOMENTS];
    int size;

    boolean has(int m) {
      return m >= 0 && m < size;
    }

    boolean reaches(int n) {
      return n >= 0 && n <= size;
    }

    int lastTime() {
      return size == 0 ? 0 : time[size - 1];
    }

    int countUnsure() {
      int many = 0;
      for (int m = 0; m < size; m++) {
        many += unsure[m];
      }
      return many;
    }

    int add(int t, int w, int b, int p, int n) {
      if (size >= MOMENTS) {
        return FULL;
      }
      time[size] = t;
      what[size] = w;
      beast[size] = b;
      by[size] = p;
      number[size] = n;
      unsure[size] = 0;
      return size++;
    }

    int dropLast() {
      if (size == 0) {
        return STATE;
      }
      size--;
      return what[size];
    }
  }

  /** A text that was read: the code of its two parts, each operation behind what it works on. */
  private static final class Text {
    final int[] worth;
    final int[] follow;

    Text(int[] worth, int[] follow) {
      this.worth = worth;
      this.follow = follow;
    }
  }

  /** Works out a text's code. */
  private static final class Scales {
    final int[] names = new int[NAMES];
    final int[] stack = new int[TAPE];
    Text text;

    Scales(Text text) {
      this.text = text;
    }

    void setName(int name, int value) {
      if (name <= KIND_NAME && name >= WHO_NAME) {
        names[-1 - name] = value;
      }
    }

    int value(int[] code) {
      int top = 0;
      for (int i = 0; i < code.length; i++) {
        int op = code[i];
        if (op >= WHO_NAME) {
          if (top < stack.length) {
            stack[top] = op >= 0 ? op : names[-1 - op];
            top++;
          }
        } else if (op >= DENY) {
          if (top >= 1) {
            stack[top - 1] = ofOne(op, stack[top - 1]);
          }
        } else if (top >= 2) {
          top--;
          stack[top - 1] = ofTwo(op, stack[top - 1], stack[top]);
        }
      }
      return top > 0 ? stack[top - 1] : 0;
    }

    private static int ofOne(int op, int a) {
      if (op == NEGATE) {
        return -a;
      }
      return a == 0 ? 1 : 0;
    }

    private static int ofTwo(int op, int a, int b) {
      switch (op) {
        case MULTIPLY: return a * b;
        case ADD: return a + b;
        case SUBTRACT: return a - b;
        case LESS: return a < b ? 1 : 0;
        case SAME: return a == b ? 1 : 0;
        case BOTH: return a != 0 && b != 0 ? 1 : 0;
        default: return a != 0 || b != 0 ? 1 : 0;
      }
    }
  }

  /** Claims, and where beasts are, behind some moments, as the scales weigh them. */
  private static final class Scene {
    final Land land;
    final Diary diary;
    final Scales scales;
    final int[] kind = new int[CLAIMS];
    final int[] whose = new int[CLAIMS];
    final int[] beast = new int[CLAIMS];
    final int[] since = new int[CLAIMS];
    final int[] badly = new int[CLAIMS];
    final int[] place = new int[CLAIMS];
    final int[] lost = new int[CLAIMS];
    final boolean[] ended = new boolean[CLAIMS];
    int size;
    int now;
    final int[] at = new int[BEASTS];
    final int[] away = new int[BEASTS];
    final boolean[] dead = new boolean[BEASTS];
    int best;
    boolean disputed;
    int quarrels;
    int unowned;

    Scene(Land land, Diary diary, Scales scales) {
      this.land = land;
      this.diary = diary;
      this.scales = scales;
    }

    boolean has(int i) {
      return i >= 0 && i < size;
    }

    // ---- what moments do

    void reach(int n) {
      begin();
      for (int m = 0; m < n; m++) {
        live(m);
      }
    }

    /** All moments but the unsure ones whose bits, by their order, are set. */
    void reachWithout(int gone) {
      begin();
      int order = 0;
      for (int m = 0; m < diary.size; m++) {
        boolean was = true;
        if (diary.unsure[m] == 1) {
          was = (gone >> order & 1) == 0;
          order++;
        }
        if (was) {
          live(m);
        }
      }
    }

    void begin() {
      size = 0;
      now = 0;
      for (int b = 0; b < land.beasts; b++) {
        at[b] = land.home[b];
        away[b] = 0;
        dead[b] = false;
        if (land.isTame(b)) {
          make(HOME, b, land.keeper[b], 0, 0);
        }
        makeForGround(b, 0);
      }
    }

    void live(int m) {
      if (!diary.has(m) || !land.hasBeast(diary.beast[m])) {
        return;
      }
      int b = diary.beast[m];
      int p = diary.by[m];
      int t = diary.time[m];
      int n = diary.number[m];
      now = t;
      switch (diary.what[m]) {
        case SEEN: makeOfLiving(CLAIM, b, p, t, 0); break;
        case STARTED: makeOfLiving(CHASE, b, p, t, 0); break;
        case WOUNDED: makeOfLiving(WOUND, b, p, t, n); break;
        case HELD: make(HOLD, b, p, t, 0); break;
        case TAKEN: make(HOLD, b, p, t, TAKEN_BADLY); break;
        case LOST: lose(b, p, t); break;
        case CROSSES: cross(b, n, t); break;
        case KILLED: kill(b, p); break;
        case LET_GO: letGo(b, p); break;
        case GIVEN: give(b, p, n); break;
        default: break;
      }
    }

    private void makeOfLiving(int k, int b, int p, int t, int bad) {
      if (!dead[b]) {
        make(k, b, p, t, bad);
      }
    }

    private void makeForGround(int b, int t) {
      int p = land.ownerOf(at[b]);
      if (p != NOBODY) {
        make(GROUND, b, p, t, 0);
      }
    }

    private void make(int k, int b, int p, int t, int bad) {
      if (size >= CLAIMS) {
        return;
      }
      kind[size] = k;
      whose[size] = p;
      beast[size] = b;
      since[size] = t;
      badly[size] = bad;
      place[size] = at[b];
      lost[size] = NEVER;
      ended[size] = false;
      size++;
    }

    private void lose(int b, int p, int t) {
      for (int i = 0; i < size; i++) {
        if (beast[i] == b && whose[i] == p && lost[i] == NEVER) {
          lost[i] = t;
        }
      }
    }

    private void cross(int b, int g, int t) {
      if (dead[b] || at[b] == g) {
        return;
      }
      if (at[b] == land.home[b]) {
        away[b] = t;
      }
      at[b] = g;
      makeForGround(b, t);
    }

    private void kill(int b, int p) {
      for (int i = 0; i < size; i++) {
        if (beast[i] == b && whose[i] != p && yields(i)) {
          ended[i] = true;
        }
      }
      dead[b] = true;
    }

    private void letGo(int b, int p) {
      for (int i = 0; i < size; i++) {
        if (isHoldOf(i, b) && whose[i] == p) {
          ended[i] = true;
        }
      }
    }

    private void give(int b, int p, int to) {
      for (int i = 0; i < size; i++) {
        if (isHoldOf(i, b) && whose[i] == p) {
          whose[i] = to;
        }
      }
    }

    private boolean isHoldOf(int i, int b) {
      return kind[i] == HOLD && beast[i] == b;
    }

    // ---- what kinds tell of claim i

    private boolean yields(int i) {
      return kind[i] == CLAIM || kind[i] == CHASE || kind[i] == WOUND;
    }

    int weight(int i) {
      switch (kind[i]) {
        case CHASE: return 3;
        case WOUND: return 3 + badly[i];
        case HOLD: return 10 + badly[i];
        case GROUND: return 4;
        case HOME: return 6 + badly[i];
        default: return 1;
      }
    }

    boolean stands(int i) {
      if (ended[i]) {
        return false;
      }
      int b = beast[i];
      switch (kind[i]) {
        case CHASE: return lost[i] == NEVER && mayFollow(whose[i], at[b], b);
        case WOUND: return !isLostForLong(i) && mayFollow(whose[i], at[b], b);
        case HOLD: return true;
        case GROUND: return lost[i] == NEVER && isOnItsPlace(i) && !isHeld(b);
        case HOME: return at[b] == land.home[b] || now - away[b] <= AWAY_MOST;
        default: return lost[i] == NEVER;
      }
    }

    private boolean isLostForLong(int i) {
      return lost[i] != NEVER && now - lost[i] > badly[i];
    }

    private boolean isOnItsPlace(int i) {
      return at[beast[i]] == place[i] && land.ownerOf(place[i]) == whose[i];
    }

    private boolean isHeld(int b) {
      for (int i = 0; i < size; i++) {
        if (isHoldOf(i, b) && !ended[i]) {
          return true;
        }
      }
      return false;
    }

    // ---- what the law says

    boolean mayFollow(int p, int g, int b) {
      int owner = land.ownerOf(g);
      scales.setName(KIND_NAME, -1);
      scales.setName(SINCE_NAME, 0);
      scales.setName(WEIGHT_NAME, owner + 1);
      scales.setName(GROUND_NAME, owner == p ? 1 : 0);
      scales.setName(TAME_NAME, land.isTame(b) ? 1 : 0);
      scales.setName(WHO_NAME, p);
      return scales.value(scales.text.follow) != 0;
    }

    int worth(int i) {
      int b = beast[i];
      scales.setName(KIND_NAME, kind[i]);
      scales.setName(SINCE_NAME, now - since[i]);
      scales.setName(WEIGHT_NAME, weight(i));
      scales.setName(GROUND_NAME, land.ownerOf(at[b]) == whose[i] ? 1 : 0);
      scales.setName(TAME_NAME, land.isTame(b) ? 1 : 0);
      scales.setName(WHO_NAME, whose[i]);
      return Math.max(0, Math.min(WORTH_MOST, scales.value(scales.text.worth)));
    }

    /** Finds the claim by which a beast is somebody's, and whether another one's is worth just as much. */
    void weigh(int b) {
      best = -1;
      disputed = false;
      int most = 0;
      for (int i = 0; i < size; i++) {
        if (beast[i] != b || !stands(i)) {
          continue;
        }
        int worth = worth(i);
        if (worth > most) {
          best = i;
          most = worth;
          disputed = false;
        } else if (best >= 0 && worth == most && whose[i] != whose[best]) {
          disputed = true;
        }
      }
    }

    int possessor(int b) {
      weigh(b);
      return best < 0 ? NOBODY : whose[best];
    }

    int possessorWithout(int b, int gone) {
      reachWithout(gone);
      weigh(b);
      return best < 0 ? NOBODY : whose[best];
    }

    /** Counts behind how many of 0 .. all moments they quarrel about a beast, and it is nobody's. */
    void tally(int b) {
      quarrels = 0;
      unowned = 0;
      begin();
      for (int n = 0; n <= diary.size; n++) {
        if (n > 0) {
          live(n - 1);
        }
        weigh(b);
        quarrels += disputed ? 1 : 0;
        unowned += best < 0 ? 1 : 0;
      }
    }
  }

  /** The tape, and how a text is read from it. */
  private static final class Reader {
    final byte[] tape = new byte[TAPE];
    int size;
    /** Where the first fault is; below 0: none was met. */
    int fault;
    private final int[] code = new int[TAPE];
    private int codeSize;
    private int worthSize;
    private int token;
    private int tokenPlace;
    private int tokenCode;
    private int next;
    private int open;

    int append(long w, int n) {
      if (size + n > TAPE) {
        return FULL;
      }
      for (int k = n - 1; k >= 0; k--) {
        tape[size] = (byte) (w >> 8 * k);
        size++;
      }
      return size;
    }

    void readText() {
      fault = -1;
      codeSize = 0;
      next = 0;
      open = 0;
      scan();
      expect(WORTH);
      readEither();
      expect(';');
      worthSize = codeSize;
      expect(FOLLOW);
      readEither();
      expect(';');
      expect(END);
    }

    Text textRead() {
      return new Text(
          Arrays.copyOfRange(code, 0, worthSize), Arrays.copyOfRange(code, worthSize, codeSize));
    }

    private void readEither() {
      readBoth();
      for (int k = 0; k < TAPE && sees(OR); k++) {
        scan();
        readBoth();
        put(EITHER);
      }
    }

    private void readBoth() {
      readNot();
      for (int k = 0; k < TAPE && sees(AND); k++) {
        scan();
        readNot();
        put(BOTH);
      }
    }

    private void readNot() {
      if (!sees(NOT)) {
        readCompared();
      } else if (opens()) {
        readNot();
        put(DENY);
        open--;
      }
    }

    private void readCompared() {
      readSum();
      if (sees('<') || sees('=')) {
        int op = token == '<' ? LESS : SAME;
        scan();
        readSum();
        put(op);
      }
    }

    private void readSum() {
      readTerm();
      for (int k = 0; k < TAPE && (sees('+') || sees('-')); k++) {
        int op = token == '+' ? ADD : SUBTRACT;
        scan();
        readTerm();
        put(op);
      }
    }

    private void readTerm() {
      readOne();
      for (int k = 0; k < TAPE && sees('*'); k++) {
        scan();
        readOne();
        put(MULTIPLY);
      }
    }

    private void readOne() {
      if (sees(NUMBER_TOKEN) || sees(NAME_TOKEN)) {
        put(tokenCode);
        scan();
      } else if (sees('-')) {
        if (opens()) {
          readOne();
          put(NEGATE);
          open--;
        }
      } else if (sees('(')) {
        if (opens()) {
          readEither();
          expect(')');
          open--;
        }
      } else {
        fail();
      }
    }

    private boolean opens() {
      if (open >= OPEN_MOST) {
        fail();
        return false;
      }
      open++;
      scan();
      return true;
    }

    private boolean sees(int wanted) {
      return fault < 0 && token == wanted;
    }

    private void expect(int wanted) {
      if (sees(wanted)) {
        scan();
      } else {
        fail();
      }
    }

    private void fail() {
      if (fault < 0) {
        fault = tokenPlace;
      }
    }

    private void put(int op) {
      if (fault < 0 && codeSize < TAPE) {
        code[codeSize] = op;
        codeSize++;
      }
    }

    // ---- tokens

    private void scan() {
      int i = next;
      while (i < size && (tape[i] == 32 || tape[i] == 10)) {
        i++;
      }
      tokenPlace = i;
      next = i;
      if (i >= size) {
        token = END;
      } else if (isLetter(tape[i])) {
        scanWord();
      } else if (isDigit(tape[i])) {
        scanNumber();
      } else {
        token = isSign(tape[i]) ? tape[i] : BROKEN;
        next++;
      }
    }

    private void scanWord() {
      while (next < size && isLetter(tape[next])) {
        next++;
      }
      int word = numberOfWord();
      if (word < 0) {
        token = BROKEN;
      } else if (word < NAMES) {
        token = NAME_TOKEN;
        tokenCode = KIND_NAME - word;
      } else {
        token = WORTH + (word - NAMES);
      }
    }

    private void scanNumber() {
      tokenCode = 0;
      while (next < size && isDigit(tape[next])) {
        // one that is too long may wrap here: it is broken all the same
        tokenCode = tokenCode * 10 + (tape[next] - '0');
        next++;
      }
      token = next - tokenPlace > DIGITS ? BROKEN : NUMBER_TOKEN;
    }

    /** Which of WORDS the token is; below 0: none of them. */
    private int numberOfWord() {
      int word = 0;
      int letters = 0;
      boolean alike = true;
      for (int i = 0; i < WORDS.length(); i++) {
        char c = WORDS.charAt(i);
        int place = tokenPlace + letters;
        if (c != ' ') {
          alike = alike && place < next && tape[place] == c;
          letters++;
        } else if (alike && place == next) {
          return word;
        } else {
          word++;
          letters = 0;
          alike = true;
        }
      }
      return -1;
    }

    private static boolean isLetter(int c) {
      return c >= 'a' && c <= 'z';
    }

    private static boolean isDigit(int c) {
      return c >= '0' && c <= '9';
    }

    private static boolean isSign(int c) {
      switch (c) {
        case '(':
        case ')':
        case ';':
        case '+':
        case '-':
        case '*':
        case '<':
        case '=':
          return true;
        default:
          return false;
      }
    }
  }

  /** What was kept, to come back to. */
  private static final class Image {
    boolean isKept;
    int law;
    private final int[] owner = new int[GROUNDS];
    private final int[] unsure = new int[MOMENTS];
    private int grounds;
    private int moments;

    void keep(Land land, Diary diary, int lawNow) {
      isKept = true;
      law = lawNow;
      grounds = land.grounds;
      moments = diary.size;
      System.arraycopy(land.owner, 0, owner, 0, GROUNDS);
      System.arraycopy(diary.unsure, 0, unsure, 0, MOMENTS);
    }

    void restore(Land land, Diary diary) {
      System.arraycopy(owner, 0, land.owner, 0, grounds);
      diary.size = Math.min(diary.size, moments);
      System.arraycopy(unsure, 0, diary.unsure, 0, diary.size);
    }
  }

  /** A row of numbers, or missing. */
  private static final class Sheet {
    static final int NO_SORT = -1;
    final int[] row = new int[CELLS];
    int sort = NO_SORT;
    int size;

    boolean isMissing() {
      return sort == NO_SORT;
    }

    boolean has(int i) {
      return i >= 0 && i < size;
    }

    boolean hasRun(int i, int n) {
      return i >= 0 && n >= 0 && i <= size && n <= size - i;
    }

    void become(int newSort, int n) {
      sort = newSort;
      size = n;
      Arrays.fill(row, 0);
    }

    void put(int i, int v) {
      switch (sort) {
        case 0: row[i] = (byte) v; break;
        case 1: row[i] = (short) v; break;
        default: row[i] = v; break;
      }
    }
  }
}
