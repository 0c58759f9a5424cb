import java.math.BigInteger;
import java.util.ArrayDeque;
import java.util.ArrayList;
import java.util.Arrays;
import java.util.Comparator;
import java.util.HashMap;
import java.util.LinkedHashMap;
import java.util.List;
import java.util.Map;
import java.util.Random;
import java.util.TreeSet;

/**
 * Runs of 512 calls, right and wrong ones, each answer held against a model that reckons in other ways:
 * pairs marked apart, colours by signatures, searches by labels, chords by taking away, cliques by all sets.
 */
public final class SplitClassesOracle {
  private static final int UNKNOWN = -1000000001, OUTSIDE = -1000000002, NOT = -1000000003, FULL = -1000000004;
  private static final int RUNS = 1500;

  /** All of section 1. */
  private static final class World {
    int n = 4, letters = 1, work = 0;
    TreeSet<Integer> finals = new TreeSet<>();
    int[] table = new int[4];
    boolean[][] adjacent = new boolean[4][4];
    List<int[]> machine = new ArrayList<>();
    List<TreeSet<Integer>> classes = new ArrayList<>();

    World(int n) {
      this.n = n;
      table = new int[n];
      adjacent = new boolean[n][n];
      machine.add(identity());
      classes.add(everything());
    }

    int[] identity() {
      int[] row = new int[n];
      for (int i = 0; i < n; i++) row[i] = i;
      return row;
    }

    TreeSet<Integer> everything() {
      TreeSet<Integer> all = new TreeSet<>();
      for (int i = 0; i < n; i++) all.add(i);
      return all;
    }

    World copy() {
      World w = new World(n);
      w.letters = letters;
      w.work = work;
      w.finals = new TreeSet<>(finals);
      w.table = table.clone();
      for (int i = 0; i < n; i++) w.adjacent[i] = adjacent[i].clone();
      w.machine.clear();
      for (int[] row : machine) w.machine.add(row.clone());
      w.classes.clear();
      for (TreeSet<Integer> c : classes) w.classes.add(new TreeSet<>(c));
      return w;
    }

    int edges() {
      int count = 0;
      for (int i = 0; i < n; i++) for (int j = 0; j < i; j++) if (adjacent[i][j]) count++;
      return count;
    }

    int classOf(int item) {
      for (int k = 0; k < classes.size(); k++) if (classes.get(k).contains(item)) return k;
      return -1;
    }

    TreeSet<Integer> near(int i) {
      TreeSet<Integer> near = new TreeSet<>();
      for (int j = 0; j < n; j++) if (adjacent[i][j]) near.add(j);
      return near;
    }

    TreeSet<Integer> kindSet(int kind, int x, int y) {
      TreeSet<Integer> set = new TreeSet<>();
      if (kind == 4) return new TreeSet<>(finals);
      for (int i = 0; i < n; i++) {
        boolean in = false;
        if (kind == 0) in = adjacent[x][i];
        if (kind == 1) in = adjacent[x][i] || x == i;
        if (kind == 2) in = (table[i] & (1 << x)) != 0;
        if (kind == 3) in = classes.get(y).contains(machine.get(x)[i]);
        if (kind == 5) {
          TreeSet<Integer> both = near(i);
          both.retainAll(classes.get(x));
          in = both.size() >= y;
        }
        if (in) set.add(i);
      }
      return set;
    }

    void split(TreeSet<Integer> set) {
      List<TreeSet<Integer>> after = new ArrayList<>();
      for (TreeSet<Integer> c : classes) {
        TreeSet<Integer> in = new TreeSet<>(c);
        in.retainAll(set);
        TreeSet<Integer> out = new TreeSet<>(c);
        out.removeAll(set);
        if (!in.isEmpty()) after.add(in);
        if (!out.isEmpty()) after.add(out);
      }
      classes = after;
    }

    void arrange() { classes.sort(Comparator.comparing(TreeSet<Integer>::first)); }

    void group(String[] keys, boolean sorted) {
      Map<String, TreeSet<Integer>> groups = new LinkedHashMap<>();
      for (int i = 0; i < n; i++) groups.computeIfAbsent(keys[i], k -> new TreeSet<>()).add(i);
      List<String> names = new ArrayList<>(groups.keySet());
      if (sorted) names.sort(Comparator.naturalOrder());
      classes = new ArrayList<>();
      for (String name : names) classes.add(groups.get(name));
    }

    void refine(int kind) {
      if (kind <= 2) refineByRows(kind);
      if (kind == 3) refineByPairs();
      if (kind == 4) refineByColours();
    }

    /** The place of each item by its whole row at once: 'a' stands for in, 'b' for out. */
    void refineByRows(int kind) {
      String[] keys = new String[n];
      for (int i = 0; i < n; i++) {
        StringBuilder key = new StringBuilder().append((char) ('a' + classOf(i)));
        for (int x = 0; x < (kind == 2 ? 8 : n); x++) key.append(kindSet(kind, x, 0).contains(i) ? 'a' : 'b');
        keys[i] = key.toString();
      }
      group(keys, true);
    }

    void refineByPairs() {
      boolean[][] apart = new boolean[n][n];
      for (int i = 0; i < n; i++)
        for (int j = 0; j < n; j++) apart[i][j] = classOf(i) != classOf(j) || finals.contains(i) != finals.contains(j);
      for (boolean more = true; more; ) {
        more = false;
        for (int i = 0; i < n; i++)
          for (int j = 0; j < n; j++)
            for (int[] row : machine)
              if (!apart[i][j] && apart[row[i]][row[j]]) { apart[i][j] = true; more = true; }
      }
      String[] keys = new String[n];
      for (int i = 0; i < n; i++) for (int j = n - 1; j >= 0; j--) if (!apart[i][j]) keys[i] = "" + j;
      group(keys, false);
    }

    void refineByColours() {
      int[] colour = new int[n];
      for (int i = 0; i < n; i++) colour[i] = classOf(i);
      String[] keys = new String[n];
      for (int round = 0; round <= n; round++) {
        Map<String, Integer> names = new HashMap<>();
        for (int i = 0; i < n; i++) {
          List<Integer> around = new ArrayList<>();
          for (int j : near(i)) around.add(colour[j]);
          around.sort(null);
          keys[i] = colour[i] + ":" + around;
          names.putIfAbsent(keys[i], names.size());
        }
        for (int i = 0; i < n; i++) colour[i] = names.get(keys[i]);
      }
      group(keys, false);
    }

    World ofItself(int kind) {
      World w = copy();
      w.classes = new ArrayList<>(List.of(everything()));
      w.refine(kind);
      return w;
    }

    int apart(int i, int j) {
      int[][] length = new int[n][n];
      for (int[] row : length) Arrays.fill(row, -1);
      ArrayDeque<int[]> queue = new ArrayDeque<>();
      queue.add(new int[] {i, j});
      length[i][j] = 0;
      while (!queue.isEmpty()) {
        int[] pair = queue.poll();
        if (finals.contains(pair[0]) != finals.contains(pair[1])) return length[pair[0]][pair[1]];
        for (int[] row : machine) {
          int a = row[pair[0]], b = row[pair[1]];
          if (length[a][b] < 0) { length[a][b] = length[pair[0]][pair[1]] + 1; queue.add(new int[] {a, b}); }
        }
      }
      return -1;
    }

    List<Integer> search(int s) {
      String[] label = new String[n];
      for (int i = 0; i < n; i++) label[i] = i == s ? "1" : "0";
      List<Integer> row = new ArrayList<>();
      while (row.size() < n) {
        int best = -1;
        for (int i = 0; i < n; i++)
          if (!row.contains(i) && (best < 0 || label[i].compareTo(label[best]) > 0)) best = i;
        row.add(best);
        for (int i = 0; i < n; i++) label[i] += adjacent[best][i] ? "1" : "0";
      }
      return row;
    }

    int fault() {
      List<Integer> row = search(0);
      for (int at = 0; at < n; at++) {
        List<Integer> ahead = new ArrayList<>(row.subList(0, at));
        ahead.retainAll(near(row.get(at)));
        if (ahead.isEmpty()) continue;
        int p = ahead.remove(ahead.size() - 1);
        if (!near(p).containsAll(ahead)) return row.get(at);
      }
      return -1;
    }

    boolean allNear(TreeSet<Integer> set) {
      for (int i : set) for (int j : set) if (i != j && !adjacent[i][j]) return false;
      return true;
    }

    /** Takes away items whose neighbours are all neighbours of one another, as long as there is one. */
    boolean chordal() {
      TreeSet<Integer> left = everything();
      for (boolean more = true; more; ) {
        more = false;
        for (int i : new TreeSet<>(left)) {
          TreeSet<Integer> around = near(i);
          around.retainAll(left);
          if (allNear(around)) { left.remove(i); more = true; }
        }
      }
      return left.isEmpty();
    }

    int clique() {
      int most = 0;
      for (int set = 0; set < 1 << n; set++)
        if (Integer.bitCount(set) > most && allNear(items(set))) most = Integer.bitCount(set);
      return most;
    }

    TreeSet<Integer> items(int set) {
      TreeSet<Integer> items = new TreeSet<>();
      for (int i = 0; i < n; i++) if ((set & 1 << i) != 0) items.add(i);
      return items;
    }
  }

  private static int bits(TreeSet<Integer> set) {
    int bits = 0;
    for (int i : set) bits += 1 << i;
    return bits;
  }

  /** The whole object. */
  private static final class Model {
    World w = new World(4);
    int seed = 0;
    List<World> past = new ArrayList<>();
    List<int[]> book = new ArrayList<>();
    World[] images = new World[2];
    int[] imageSeeds = new int[2];

    boolean item(int i) { return 0 <= i && i < w.n; }

    boolean set(int s) { return 0 <= s && s < 1 << w.n; }

    void deed() {
      past.add(w.copy());
      if (past.size() > 16) past.remove(0);
    }

    int draw(int n) {
      BigInteger next = BigInteger.valueOf(seed).multiply(BigInteger.valueOf(1103515245)).add(BigInteger.valueOf(12345));
      seed = next.mod(BigInteger.TWO.pow(31)).intValueExact();
      return seed / 65536 % n;
    }

    void drift() {
      deed();
      int what = draw(4);
      if (what == 0) {
        int i = draw(w.n), j = draw(w.n);
        if (i != j) { w.adjacent[i][j] = !w.adjacent[i][j]; w.adjacent[j][i] = w.adjacent[i][j]; }
      } else if (what == 1) {
        int i = draw(w.n);
        w.table[i] = draw(256);
      } else if (what == 2) {
        int i = draw(w.n), letter = draw(w.letters);
        w.machine.get(letter)[i] = draw(w.n);
      } else {
        w.finals = w.items(draw(1 << w.n));
      }
    }

    int told(int what) {
      switch (what) {
        case 0: return w.n;
        case 1: return w.classes.size();
        case 2: return w.work;
        case 3: return w.edges();
        case 4: return w.letters;
        case 5: return bits(w.finals);
        case 6: case 7: case 8: case 9: case 10: return w.ofItself(what - 6).classes.size();
        case 11:
          if ((w.fault() < 0) != w.chordal()) throw new IllegalStateException("the model is at odds with itself");
          return w.fault();
        case 12: return w.chordal() ? w.clique() : -1;
        case 13: return book.size();
        case 14:
          for (int e = 0; e < book.size(); e++)
            if (!item(book.get(e)[0]) || w.classOf(book.get(e)[0]) != book.get(e)[1]) return e;
          return -1;
        case 15: return past.size();
        case 16: return seed;
        default: return OUTSIDE;
      }
    }

    int itemTold(int i, int what) {
      if (!item(i)) return UNKNOWN;
      if (what < 0 || what > 6) return OUTSIDE;
      if (what == 0) return w.table[i];
      if (what == 1) return bits(w.near(i));
      if (what == 2) return w.classOf(i);
      if (what == 3) return w.classes.get(w.classOf(i)).size();
      return what - 4 < w.letters ? w.machine.get(what - 4)[i] : -1;
    }

    int refusal(int kind, int x, int y) {
      boolean isClass = 0 <= x && x < w.classes.size();
      if (kind < 0 || kind > 5) return OUTSIDE;
      if (kind <= 1 && !item(x)) return UNKNOWN;
      if (kind == 2 && (x < 0 || x > 7)) return UNKNOWN;
      if (kind == 3 && (x < 0 || x >= w.letters || y < 0 || y >= w.classes.size())) return UNKNOWN;
      if (kind == 5 && !isClass) return UNKNOWN;
      if (kind == 5 && (y < 0 || y > 12)) return OUTSIDE;
      return 0;
    }

    int splitBy(TreeSet<Integer> set) {
      deed();
      w.split(set);
      w.work += set.size();
      return w.classes.size();
    }

    int answer(int call, int a, int b, int c) {
      switch (call) {
        case 0: return told(a);
        case 1: return itemTold(a, b);
        case 2: return 0 <= a && a < w.classes.size() ? bits(w.classes.get(a)) : UNKNOWN;
        case 3: return refusal(a, b, c) != 0 ? refusal(a, b, c) : bits(w.kindSet(a, b, c));
        case 4:
          if (!item(a) || !item(b)) return UNKNOWN;
          if (c < 0 || c > 4) return OUTSIDE;
          World own = w.ofItself(c);
          return own.classOf(a) == own.classOf(b) ? 1 : 0;
        case 5: return item(a) && item(b) ? w.apart(a, b) : UNKNOWN;
        case 6: return item(a) && item(b) ? w.search(a).get(b) : UNKNOWN;
        default: return call < 13 ? deedOfThings(call, a, b, c) : deedOfClasses(call, a, b, c);
      }
    }

    int deedOfThings(int call, int a, int b, int c) {
      int was;
      switch (call) {
        case 7:
          if (a < 1 || a > 12) return OUTSIDE;
          deed();
          was = w.n;
          w = new World(a);
          return was;
        case 8:
          if (!item(a) || !item(b) || a == b) return UNKNOWN;
          if (c < 0 || c > 1) return OUTSIDE;
          deed();
          w.adjacent[a][b] = w.adjacent[b][a] = c == 1;
          return w.edges();
        case 9:
          if (!item(a)) return UNKNOWN;
          if (b < 0 || b > 255) return OUTSIDE;
          deed();
          was = w.table[a];
          w.table[a] = b;
          return was;
        case 10:
          if (a < 1 || a > 3) return OUTSIDE;
          deed();
          was = w.letters;
          while (w.machine.size() > a) w.machine.remove(w.machine.size() - 1);
          while (w.machine.size() < a) w.machine.add(w.identity());
          w.letters = a;
          return was;
        case 11:
          if (!item(a) || b < 0 || b >= w.letters || !item(c)) return UNKNOWN;
          deed();
          was = w.machine.get(b)[a];
          w.machine.get(b)[a] = c;
          return was;
        default:
          if (!set(a)) return UNKNOWN;
          deed();
          was = bits(w.finals);
          w.finals = w.items(a);
          return was;
      }
    }

    int deedOfClasses(int call, int a, int b, int c) {
      switch (call) {
        case 13:
          deed();
          int were = w.classes.size();
          w.classes = new ArrayList<>(List.of(w.everything()));
          w.work = 0;
          return were;
        case 14: return set(a) ? splitBy(w.items(a)) : UNKNOWN;
        case 15: return refusal(a, b, c) != 0 ? refusal(a, b, c) : splitBy(w.kindSet(a, b, c));
        case 16:
          if (a < 0 || a > 4) return OUTSIDE;
          deed();
          w.refine(a);
          if (a >= 3) w.arrange();
          return w.classes.size();
        case 17:
          if (a < 0 || (long) a + 1 >= w.classes.size()) return UNKNOWN;
          deed();
          w.classes.get(a).addAll(w.classes.remove(a + 1));
          return w.classes.size();
        case 18:
          deed();
          List<TreeSet<Integer>> before = new ArrayList<>(w.classes);
          w.arrange();
          int moved = 0;
          for (int k = 0; k < before.size(); k++) if (w.classes.indexOf(before.get(k)) != k) moved++;
          return moved;
        case 19:
          if (a < 1 || a > 12) return OUTSIDE;
          for (int time = 0; time < a; time++) drift();
          return w.edges();
        case 20:
          if (a < 1 || a > 16) return OUTSIDE;
          if (a > past.size()) return NOT;
          for (int time = 0; time < a; time++) w = past.remove(past.size() - 1);
          return past.size();
        default: return bookAndImages(call, a, b);
      }
    }

    int bookAndImages(int call, int a, int b) {
      int was;
      switch (call) {
        case 21:
          if (!item(a)) return UNKNOWN;
          if (book.size() == 20) return FULL;
          book.add(new int[] {a, b});
          return book.size();
        case 22:
          was = book.size();
          book.clear();
          return was;
        case 23:
          if (a < 0) return OUTSIDE;
          was = seed;
          seed = a;
          return was;
        case 24:
          if (a < 0 || a > 1) return UNKNOWN;
          images[a] = w.copy();
          imageSeeds[a] = seed;
          past.clear();
          return 1;
        default:
          if (a < 0 || a > 1) return UNKNOWN;
          if (images[a] == null) return NOT;
          w = images[a].copy();
          seed = imageSeeds[a];
          past.clear();
          return 1;
      }
    }
  }

  private static final String[] NAMES = {"told", "item", "classAt", "setBy", "alike", "apart", "search", "items", "edge",
    "columns", "letters", "goes", "finals", "begin", "split", "by", "refine", "join", "arrange", "drift", "undo", "write",
    "tear", "seed", "keep", "goBack"};
  private static final int[] WEIGHTS = {30, 20, 20, 14, 12, 8, 12, 1, 24, 8, 2, 10, 4, 2, 8, 10, 8, 4, 3, 3, 8, 6, 1, 1, 1, 1};

  private static int given(SplitClasses x, int call, int a, int b, int c) {
    switch (call) {
      case 0: return x.told(a);
      case 1: return x.item(a, b);
      case 2: return x.classAt(a);
      case 3: return x.setBy(a, b, c);
      case 4: return x.alike(a, b, c);
      case 5: return x.apart(a, b);
      case 6: return x.search(a, b);
      case 7: return x.items(a);
      case 8: return x.edge(a, b, c);
      case 9: return x.columns(a, b);
      case 10: return x.letters(a);
      case 11: return x.goes(a, b, c);
      case 12: return x.finals(a);
      case 13: return x.begin();
      case 14: return x.split(a);
      case 15: return x.by(a, b, c);
      case 16: return x.refine(a);
      case 17: return x.join(a);
      case 18: return x.arrange();
      case 19: return x.drift(a);
      case 20: return x.undo(a);
      case 21: return x.write(a, b);
      case 22: return x.tear();
      case 23: return x.seed(a);
      case 24: return x.keep(a);
      default: return x.goBack(a);
    }
  }

  private static int choose(Random random) {
    int sum = 0;
    for (int weight : WEIGHTS) sum += weight;
    int at = random.nextInt(sum);
    for (int call = 0; ; call++) {
      at -= WEIGHTS[call];
      if (at < 0) return call;
    }
  }

  private static int within(Random random, int least, int most) { return least + random.nextInt(most - least + 1); }

  /** Mostly numbers that the call knows; sometimes one beside its bounds, or far out. */
  private static int number(Random random, int least, int most) {
    int luck = random.nextInt(120);
    if (luck == 0) return least - 1;
    if (luck == 1) return most + 1;
    if (luck == 2) return Integer.MIN_VALUE + random.nextInt(3);
    if (luck == 3) return Integer.MAX_VALUE - random.nextInt(3);
    if (luck == 4) return within(random, -3, 40);
    return within(random, least, most);
  }

  private static int[] arguments(Random random, Model m, int call) {
    int last = m.w.n - 1, all = (1 << m.w.n) - 1, lastClass = m.w.classes.size() - 1;
    switch (call) {
      case 0: return three(number(random, 0, 16), 0, 0);
      case 1: return three(number(random, 0, last), number(random, 0, 6), 0);
      case 2: return three(number(random, 0, lastClass), 0, 0);
      case 3: case 15: {
        int kind = number(random, 0, 5);
        if (kind == 2) return three(kind, number(random, 0, 7), number(random, 0, 20));
        if (kind == 3) return three(kind, number(random, 0, m.w.letters - 1), number(random, 0, lastClass));
        if (kind == 5) return three(kind, number(random, 0, lastClass), random.nextInt(3) == 0 ? number(random, 0, 12) : number(random, 0, 4));
        return three(kind, number(random, 0, last), number(random, 0, 20));
      }
      case 4: return three(number(random, 0, last), number(random, 0, last), number(random, 0, 4));
      case 5: case 6: return three(number(random, 0, last), number(random, 0, last), 0);
      case 7: return three(number(random, 1, 12), 0, 0);
      case 8: return three(number(random, 0, last), number(random, 0, last), number(random, 0, 1));
      case 9: return three(number(random, 0, last), random.nextInt(2) == 0 ? number(random, 0, 255) : number(random, 0, 3), 0);
      case 10: return three(number(random, 1, 3), 0, 0);
      case 11: return three(number(random, 0, last), number(random, 0, m.w.letters - 1), number(random, 0, last));
      case 12: case 14: return three(number(random, 0, all), 0, 0);
      case 16: return three(number(random, 0, 4), 0, 0);
      case 17: return three(number(random, 0, Math.max(0, lastClass - 1)), 0, 0);
      case 19: return three(number(random, 1, 12), 0, 0);
      case 20: return three(random.nextInt(4) == 0 ? number(random, 1, 16) : number(random, 1, 3), 0, 0);
      case 21: {
        int i = number(random, 0, last);
        return three(i, random.nextInt(8) == 0 || !m.item(i) ? number(random, -1, lastClass) : m.w.classOf(i), 0);
      }
      case 23: return three(random.nextInt(2147483647), 0, 0);
      case 24: case 25: return three(number(random, 0, 1), 0, 0);
      default: return three(0, 0, 0);
    }
  }

  private static int[] three(int a, int b, int c) { return new int[] {a, b, c}; }

  public static void main(String[] args) {
    int wrong = 0;
    int[][] seen = new int[NAMES.length][2];
    for (int run = 0; run < RUNS && wrong < 20; run++) {
      Random random = new Random(run);
      SplitClasses x = new SplitClasses();
      Model m = new Model();
      for (int at = 0; at < 512; at++) {
        int call = at == 0 ? 7 : choose(random);
        int[] a = at == 0 ? three(1 + run % 12, 0, 0) : arguments(random, m, call);
        int due = m.answer(call, a[0], a[1], a[2]);
        int got = given(x, call, a[0], a[1], a[2]);
        seen[call][due < -1 ? 1 : 0]++;
        if (got != due) {
          wrong++;
          System.out.println("run " + run + ", call " + at + ": " + NAMES[call] + Arrays.toString(a) + " answered " + got + ", due is " + due);
          break;
        }
      }
    }
    for (int call = 0; call < NAMES.length; call++)
      if (seen[call][0] == 0) { wrong++; System.out.println(NAMES[call] + " was never answered"); }
    System.out.println(wrong == 0 ? "all answers are as due" : wrong + " answers are not as due");
    if (wrong != 0) System.exit(1);
  }
}
