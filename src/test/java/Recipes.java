import java.util.ArrayList;
import java.util.List;

/** Objects that refusals are tried on, and whether a call leaves all of them as it was. */
final class Recipes {
  interface Recipe {
    void make(WhoseHare x);
  }

  interface Call {
    long ask(WhoseHare x);
  }

  static final Recipe EMPTY = Recipes::empty, SOME = Recipes::some, MOST = Recipes::most;

  private Recipes() { }

  /** A new object. */
  private static void empty(WhoseHare x) {
    x.count(0);
  }

  /** Three grounds, two beasts, eight moments, three texts, a tape that lacks its last byte, an image that is old. */
  private static void some(WhoseHare x) {
    x.ground(0);
    x.ground(1);
    x.ground(-1);
    x.beast(0, 4);
    x.beast(2, -1);
    Checks.read(x, "worth weight+tame;follow weight;");
    Checks.read(x, "worth who+1;follow ground;");
    x.force(1);
    int[][] moments = {{1, 0, 1, 2, 0}, {2, 2, 0, 3, 6}, {4, 5, 0, 3, 1}, {4, 3, 1, 5, 0}, {7, 4, 0, 3, 0},
        {9, 6, 1, 6, 0}, {9, 7, 0, 7, 0}, {12, 9, 1, 5, 8}, {20, 8, 0, 7, 0}};
    for (int[] m : moments) {
      x.moment(m[0], m[1], m[2], m[3], m[4]);
    }
    x.unsure(3, 1);
    x.image();
    x.owns(1, 8);
    x.undo();
    x.unsure(0, 1);
    x.force(2);
    Checks.feedAll(x, "worth 77;follow who");
    int[] sizes = {10, 5, 15};
    for (int s = 0; s < 3; s++) {
      x.sheet(s, s, sizes[s]);
      for (int i = 0; i < sizes[s]; i++) {
        x.cell(s, i, new int[] {3, 7, 1, s + 2, 4}[i % 5]);
      }
    }
  }

  /** As many of all as can be; its tape is full of what is no text. */
  private static void most(WhoseHare x) {
    for (int g = 0; g < 8; g++) {
      x.ground(g - 1);
    }
    for (int b = 0; b < 6; b++) {
      x.beast(b, b % 2 == 0 ? -1 : b);
    }
    for (int t = 1; t < 6; t++) {
      Checks.read(x, "worth weight*" + t + ";follow 1;");
    }
    for (int m = 0; m < 32; m++) {
      x.moment(10 + m, m % 10, m % 6, m % 7, m % 8);
    }
    for (int m = 0; m < 6; m++) {
      x.unsure(m * 6, 1);
    }
    x.image();
    x.force(5);
    for (int k = 0; k < 20; k++) {
      x.feed('?', 8);
    }
    for (int s = 0; s < 4; s++) {
      x.sheet(s, s % 3, 40);
      x.cell(s, 38, s + 2);
    }
  }

  /** The call's answer is due, and nothing that can be asked behind it is another. */
  static void unchanged(Checks checks, String what, Recipe recipe, Call call, long due) {
    for (int part = 0; part < Dump.PARTS; part++) {
      WhoseHare with = new WhoseHare();
      recipe.make(with);
      checks.due(what, call.ask(with), due);
      checks.holds(what + " changes nothing (part " + part + ")", Dump.part(with, part).equals(without(recipe, part)));
    }
  }

  private static final List<Recipe> KNOWN = new ArrayList<>();
  private static final List<List<List<Long>>> DUMPS = new ArrayList<>();

  private static List<Long> without(Recipe recipe, int part) {
    if (!KNOWN.contains(recipe)) {
      KNOWN.add(recipe);
      List<List<Long>> parts = new ArrayList<>();
      for (int k = 0; k < Dump.PARTS; k++) {
        WhoseHare x = new WhoseHare();
        recipe.make(x);
        parts.add(Dump.part(x, k));
      }
      DUMPS.add(parts);
    }
    return DUMPS.get(KNOWN.indexOf(recipe)).get(part);
  }
}
