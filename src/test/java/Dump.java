import java.util.ArrayList;
import java.util.List;

/**
 * All that can be asked of an object. It is asked in parts, each of an object of its own made the same way, as an
 * object answers 512 calls only, and as a tape, a sheet or an image is seen by what it does.
 */
final class Dump {
  static final int PARTS = 7;
  private final WhoseHare x;
  private final List<Long> told = new ArrayList<>();

  private Dump(WhoseHare x) {
    this.x = x;
  }

  /** Part 0 .. 6 of what x tells; x is another one behind it. */
  static List<Long> part(WhoseHare x, int part) {
    Dump dump = new Dump(x);
    switch (part) {
      case 0: dump.moments(); break;
      case 1: dump.claims(0, 4); break;
      case 2: dump.claims(4, 8); break;
      case 3: dump.texts(); break;
      case 4: dump.sheets(); break;
      case 5: dump.image(); break;
      default: dump.places(); break;
    }
    return dump.told;
  }

  private void add(long answer) {
    told.add(answer);
  }

  private void counts() {
    for (int w = 0; w < 7; w++) {
      add(x.count(w));
    }
  }

  private void moments() {
    counts();
    int all = x.count(2);
    for (int m = 0; m < all; m++) {
      for (int w = 0; w < 6; w++) {
        add(x.momentTold(m, w));
      }
    }
  }

  private void claims(int from, int to) {
    int all = x.count(2);
    int many = x.claims(all);
    add(many);
    for (int i = 0; i < many; i++) {
      for (int w = from; w < to; w++) {
        add(x.claimTold(all, i, w));
      }
    }
  }

  private void weights() {
    for (int i = 0; i < 4; i++) {
      add(x.claimTold(0, i, 7));
    }
    for (int g = 0; g < 3; g++) {
      add(x.follow(g, g, 0));
    }
  }

  /** What each text says, then what the tape can still become. */
  private void texts() {
    int many = x.count(4);
    for (int t = 0; t < many; t++) {
      add(x.force(t));
      weights();
    }
    add(x.feed(';', 1));
    add(x.text());
    counts();
    add(x.force(many));
    weights();
  }

  /** What sheets hold is seen by the moments that they tell, then how long they are. */
  private void sheets() {
    for (int s = 0; s < 4; s++) {
      int before = x.count(2);
      for (int m = 0; m < before; m++) {
        x.undo();
      }
      for (int sort = 0; sort < 3; sort++) {
        add(x.tell(s, sort, 0, 8));
      }
      int came = x.count(2);
      for (int m = 0; m < came; m++) {
        for (int w = 0; w < 5; w++) {
          add(x.momentTold(m, w));
        }
      }
    }
    for (int s = 0; s < 4; s++) {
      for (int i = 0; i <= 40; i += 5) {
        add(x.cell(s, i, 0));
        add(x.cell(s, i + 4, 0));
      }
    }
  }

  private void image() {
    add(x.back());
    counts();
    int all = x.count(2);
    for (int m = 0; m < all; m++) {
      add(x.momentTold(m, 5));
    }
    owners();
    weights();
  }

  private void owners() {
    int grounds = x.count(0);
    for (int g = 0; g < grounds; g++) {
      add(x.owns(g, -1));
    }
  }

  private void places() {
    int beasts = x.count(1);
    int all = x.count(2);
    for (int b = 0; b < beasts; b++) {
      for (int n = 0; n <= all; n += 5) {
        add(x.whoseIs(b, n));
        add(x.where(b, n, 0));
        add(x.where(b, n, 1));
        add(x.where(b, n, 2));
      }
      add(x.taken(b, 6));
      add(x.may(b));
    }
    owners();
  }
}
