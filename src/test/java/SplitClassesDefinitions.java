import java.util.ArrayList;
import java.util.List;

/**
 * The document's own definitions, taken word for word, over all small rows of classes, graphs and machines, and over
 * some tables (all would be too many): "as few CLASSES as can be" by looking at all ways to put ITEMS in classes,
 * "a row of LETTERS" by all words, "every ring of four and more has a chord" by all rings, SPLIT and SEARCH step by
 * step as they are told.
 */
public final class SplitClassesDefinitions {
  private static final int NONE = -1, UNKNOWN = -1000000001;
  private static int wrong = 0;
  private static int looked = 0;

  private static void due(String what, Object got, Object want) {
    looked++;
    if (got.equals(want)) return;
    wrong++;
    if (wrong <= 20) System.out.println(what + ": " + got + ", due is " + want);
  }

  // ---- rows of classes

  private static int all(int n) { return (1 << n) - 1; }

  private static boolean has(int set, int i) { return (set >> i & 1) == 1; }

  /** All ways to put ITEMS in classes, these in the order of their least ITEMS. */
  private static List<List<Integer>> partitions(int n) {
    List<List<Integer>> ways = new ArrayList<>();
    ways.add(new ArrayList<>());
    for (int i = 0; i < n; i++) {
      List<List<Integer>> more = new ArrayList<>();
      for (List<Integer> way : ways) {
        for (int k = 0; k < way.size(); k++) {
          List<Integer> joined = new ArrayList<>(way);
          joined.set(k, way.get(k) | 1 << i);
          more.add(joined);
        }
        List<Integer> alone = new ArrayList<>(way);
        alone.add(1 << i);
        more.add(alone);
      }
      ways = more;
    }
    return ways;
  }

  /** All rows of classes: all ways, in all orders. */
  private static List<List<Integer>> rows(int n) {
    List<List<Integer>> rows = new ArrayList<>();
    for (List<Integer> way : partitions(n)) orders(new ArrayList<>(), way, rows);
    return rows;
  }

  private static void orders(List<Integer> ahead, List<Integer> left, List<List<Integer>> into) {
    if (left.isEmpty()) into.add(ahead);
    for (int k = 0; k < left.size(); k++) {
      List<Integer> longer = new ArrayList<>(ahead), rest = new ArrayList<>(left);
      longer.add(rest.remove(k));
      orders(longer, rest, into);
    }
  }

  private static boolean within(List<Integer> fine, List<Integer> coarse) {
    for (int f : fine) {
      boolean inOne = false;
      for (int c : coarse) inOne |= (f & ~c) == 0;
      if (!inOne) return false;
    }
    return true;
  }

  private static int classOf(List<Integer> row, int i) {
    for (int k = 0; k < row.size(); k++) if (has(row.get(k), i)) return k;
    return NONE;
  }

  private static List<Integer> split(List<Integer> row, int set) {
    List<Integer> after = new ArrayList<>();
    for (int c : row) {
      if ((c & set) != 0 && (c & ~set) != 0) {
        after.add(c & set);
        after.add(c & ~set);
      } else {
        after.add(c);
      }
    }
    return after;
  }

  private static int least(int set) {
    int i = 0;
    while (!has(set, i)) i++;
    return i;
  }

  private static List<Integer> arranged(List<Integer> row) {
    List<Integer> sorted = new ArrayList<>(row);
    sorted.sort((a, b) -> least(a) - least(b));
    return sorted;
  }

  private static List<Integer> rowOf(SplitClasses x) {
    List<Integer> row = new ArrayList<>();
    for (int k = 0; x.classAt(k) != UNKNOWN; k++) row.add(x.classAt(k));
    return row;
  }

  /** The row anew, by begin() and split() alone. */
  private static void lay(SplitClasses x, List<Integer> row) {
    x.begin();
    for (int c : row) x.split(c);
  }

  // ---- SPLIT, WORK, join, arrange

  private static void splitting(int n) {
    for (List<Integer> row : rows(n)) {
      for (int set = 0; set <= all(n); set++) {
        SplitClasses x = laid(n, row);
        String what = row + " split(" + set + ")";
        List<Integer> want = split(row, set);
        due(what, x.split(set), want.size());
        due(what, rowOf(x), want);
        due(what + " WORK", x.told(2), n + Integer.bitCount(set));
        x.undo(1);
        due(what + " undone", rowOf(x) + " " + x.told(2), row + " " + n);
      }
      arranging(n, row);
      joining(n, row);
    }
  }

  private static SplitClasses laid(int n, List<Integer> row) {
    SplitClasses x = new SplitClasses();
    x.items(n);
    lay(x, row);
    return x;
  }

  private static void arranging(int n, List<Integer> row) {
    SplitClasses x = laid(n, row);
    List<Integer> want = arranged(row);
    int other = 0;
    for (int k = 0; k < row.size(); k++) if (want.indexOf(row.get(k)) != k) other++;
    due(row + " arrange()", x.arrange(), other);
    due(row + " arrange()", rowOf(x), want);
    for (int i = 0; i < n; i++) {
      due(row + " CLASS of " + i, x.item(i, 2), classOf(want, i));
      due(row + " ITEMS in it", x.item(i, 3), Integer.bitCount(want.get(classOf(want, i))));
    }
  }

  private static void joining(int n, List<Integer> row) {
    for (int k = 0; k <= row.size(); k++) {
      SplitClasses x = laid(n, row);
      List<Integer> want = new ArrayList<>(row);
      if (k + 1 < row.size()) want.set(k, row.get(k) | want.remove(k + 1));
      due(row + " join(" + k + ")", x.join(k), k + 1 < row.size() ? want.size() : UNKNOWN);
      due(row + " join(" + k + ")", rowOf(x), want);
    }
  }

  // ---- EDGES: REFINED 0, 1, 4, sets by KIND 0, 1, 5, SEARCH, CHORDAL, CLIQUE

  private static int[] graph(int n, int number) {
    int[] near = new int[n];
    int bit = 0;
    for (int i = 0; i < n; i++) {
      for (int j = 0; j < i; j++) {
        if (has(number, bit++)) {
          near[i] |= 1 << j;
          near[j] |= 1 << i;
        }
      }
    }
    return near;
  }

  private static SplitClasses withEdges(int[] near) {
    SplitClasses x = new SplitClasses();
    x.items(near.length);
    for (int i = 0; i < near.length; i++) for (int j = 0; j < i; j++) if (has(near[i], j)) x.edge(i, j, 1);
    return x;
  }

  private static void graphs(int n, boolean refined) {
    List<List<Integer>> ways = partitions(n);
    for (int number = 0; number < 1 << n * (n - 1) / 2; number++) {
      int[] near = graph(n, number);
      String what = n + " ITEMS, graph " + number;
      SplitClasses x = withEdges(near);
      chords(what, x, near);
      for (int s = 0; s < n; s++) due(what + " search from " + s, searched(x, n, s), search(near, s));
      if (refined) {
        refinedByNear(what, near);
        for (List<Integer> way : ways) refinedEvenly(what, near, way, ways);
      }
    }
  }

  private static void chords(String what, SplitClasses x, int[] near) {
    boolean chordal = true;
    int clique = 0;
    for (int set = 1; set <= all(near.length); set++) {
      if (isRing(near, set) && Integer.bitCount(set) >= 4) chordal = false;
      if (allNear(near, set)) clique = Math.max(clique, Integer.bitCount(set));
    }
    due(what + " FAULT", x.told(11), fault(near));
    due(what + " every ring has a chord", x.told(11) == NONE, chordal);
    due(what + " CLIQUE", x.told(12), chordal ? clique : NONE);
  }

  /** A ring without a chord: each has just two of the SET near it, and from one all others are reached. */
  private static boolean isRing(int[] near, int set) {
    for (int i = 0; i < near.length; i++) if (has(set, i) && Integer.bitCount(near[i] & set) != 2) return false;
    int reached = 1 << least(set);
    for (int step = 0; step < near.length; step++)
      for (int i = 0; i < near.length; i++) if (has(reached, i)) reached |= near[i] & set;
    return reached == set;
  }

  private static boolean allNear(int[] near, int set) {
    for (int i = 0; i < near.length; i++) if (has(set, i) && (set & ~(near[i] | 1 << i)) != 0) return false;
    return true;
  }

  private static List<Integer> searched(SplitClasses x, int n, int s) {
    List<Integer> row = new ArrayList<>();
    for (int k = 0; k < n; k++) row.add(x.search(s, k));
    return row;
  }

  private static List<Integer> search(int[] near, int s) {
    List<Integer> classes = new ArrayList<>(), row = new ArrayList<>();
    classes.add(1 << s);
    if (near.length > 1) classes.add(all(near.length) - (1 << s));
    while (!classes.isEmpty()) {
      int next = least(classes.get(0));
      row.add(next);
      int left = classes.get(0) - (1 << next);
      if (left == 0) classes.remove(0);
      else classes.set(0, left);
      classes = split(classes, near[next]);
    }
    return row;
  }

  private static int fault(int[] near) {
    List<Integer> row = search(near, 0);
    for (int v : row) {
      int p = NONE;
      for (int u : row.subList(0, row.indexOf(v))) if (has(near[v], u)) p = u;
      for (int u : row.subList(0, row.indexOf(v))) if (has(near[v], u) && u != p && !has(near[p], u)) return v;
    }
    return NONE;
  }

  private static void refinedByNear(String what, int[] near) {
    SplitClasses x = withEdges(near);
    for (int kind = 0; kind <= 1; kind++) {
      List<Integer> want = List.of(all(near.length));
      for (int i = 0; i < near.length; i++) {
        int set = kind == 0 ? near[i] : near[i] | 1 << i;
        due(what + " setBy(" + kind + ", " + i + ")", x.setBy(kind, i, 0), set);
        want = split(want, set);
      }
      ofItself(what, x, kind, want);
      x.begin();
      due(what + " refine(" + kind + ")", x.refine(kind), want.size());
      due(what + " refine(" + kind + ")", rowOf(x), want);
    }
  }

  /** told() and alike() OF ITSELF against a row of classes. */
  private static void ofItself(String what, SplitClasses x, int kind, List<Integer> want) {
    due(what + " told(" + (6 + kind) + ")", x.told(6 + kind), want.size());
    for (int i = 0; i < x.told(0); i++)
      for (int j = 0; j < x.told(0); j++)
        due(what + " alike(" + i + ", " + j + ", " + kind + ")", x.alike(i, j, kind), classOf(want, i) == classOf(want, j) ? 1 : 0);
  }

  private static void refinedEvenly(String what, int[] near, List<Integer> start, List<List<Integer>> ways) {
    List<Integer> want = null;
    for (List<Integer> way : ways)
      if (within(way, start) && isEven(near, way)) want = fewer(what + " from " + start, want, way);
    SplitClasses x = withEdges(near);
    lay(x, start);
    for (int k = 0; k < start.size(); k++)
      for (int y = 0; y <= near.length; y++) due(what + " setBy(5, " + k + ", " + y + ")", x.setBy(5, k, y), atLeast(near, start.get(k), y));
    if (start.size() == 1) ofItself(what, x, 4, want);
    due(what + " from " + start + " refine(4)", x.refine(4), want.size());
    due(what + " from " + start + " refine(4)", rowOf(x), want);
  }

  private static int atLeast(int[] near, int others, int y) {
    int set = 0;
    for (int i = 0; i < near.length; i++) if (Integer.bitCount(near[i] & others) >= y) set |= 1 << i;
    return set;
  }

  private static boolean isEven(int[] near, List<Integer> way) {
    for (int c : way) {
      int one = least(c);
      for (int i = 0; i < near.length; i++)
        for (int other : way)
          if (has(c, i) && Integer.bitCount(near[i] & other) != Integer.bitCount(near[one] & other)) return false;
    }
    return true;
  }

  /** The one with fewer classes; the document speaks as if no two had as few, and so it must be. */
  private static List<Integer> fewer(String what, List<Integer> one, List<Integer> other) {
    if (one == null || other.size() < one.size()) {
      if (one != null) due(what + ": all others are within the one with the fewest", within(one, other), true);
      return other;
    }
    due(what + ": all others are within the one with the fewest", within(other, one), true);
    return one;
  }

  // ---- THE MACHINE: REFINED 3, sets by KIND 3, APART

  private static void machines(int n, int letters) {
    List<List<Integer>> ways = partitions(n);
    int count = 1;
    for (int step = 0; step < n * letters; step++) count *= n;
    for (int number = 0; number < count; number++) {
      int[][] leads = new int[letters][n];
      int left = number;
      for (int[] row : leads) {
        for (int i = 0; i < n; i++) {
          row[i] = left % n;
          left /= n;
        }
      }
      for (int finals = 0; finals <= all(n); finals++) machine(n + " ITEMS, machine " + number + ", FINAL " + finals, leads, finals, ways);
    }
  }

  private static void machine(String what, int[][] leads, int finals, List<List<Integer>> ways) {
    int n = leads[0].length;
    SplitClasses x = withMachine(leads, finals);
    for (int i = 0; i < n; i++) {
      for (int j = 0; j < n; j++) {
        int apart = apart(leads, finals, i, j);
        due(what + " apart(" + i + ", " + j + ")", x.apart(i, j), apart);
        due(what + " alike(" + i + ", " + j + ", 3)", x.alike(i, j, 3), apart == NONE ? 1 : 0);
      }
    }
    // An object for each, for the document speaks of 512 calls alone.
    for (List<Integer> start : ways) {
      SplitClasses one = withMachine(leads, finals);
      lay(one, start);
      refinedByMachine(what + " from " + start, one, leads, finals, ways);
    }
  }

  private static SplitClasses withMachine(int[][] leads, int finals) {
    SplitClasses x = new SplitClasses();
    x.items(leads[0].length);
    x.letters(leads.length);
    for (int letter = 0; letter < leads.length; letter++)
      for (int i = 0; i < leads[letter].length; i++) due("goes(" + i + ")", x.goes(i, letter, leads[letter][i]), i);
    x.finals(finals);
    return x;
  }

  private static void refinedByMachine(String what, SplitClasses x, int[][] leads, int finals, List<List<Integer>> ways) {
    List<Integer> start = rowOf(x), cut = split(start, finals), want = null;
    for (List<Integer> way : ways)
      if (within(way, cut) && leadsAsOne(leads, way)) want = fewer(what, want, way);
    for (int letter = 0; letter < leads.length; letter++)
      for (int k = 0; k < start.size(); k++) {
        int set = 0;
        for (int i = 0; i < leads[letter].length; i++) if (has(start.get(k), leads[letter][i])) set |= 1 << i;
        due(what + " setBy(3, " + letter + ", " + k + ")", x.setBy(3, letter, k), set);
      }
    due(what + " setBy(4)", x.setBy(4, 0, 0), finals);
    if (start.size() == 1) due(what + " told(9)", x.told(9), want.size());
    due(what + " refine(3)", x.refine(3), want.size());
    due(what + " refine(3)", rowOf(x), want);
  }

  private static boolean leadsAsOne(int[][] leads, List<Integer> way) {
    for (int[] row : leads)
      for (int c : way)
        for (int i = 0; i < row.length; i++)
          if (has(c, i) && classOf(way, row[i]) != classOf(way, row[least(c)])) return false;
    return true;
  }

  /** All words, the shorter ones first; of n states a word of n LETTERS is longer than any that is needed. */
  private static int apart(int[][] leads, int finals, int i, int j) {
    int words = 1;
    for (int length = 0; length <= leads[0].length; length++) {
      for (int word = 0; word < words; word++) {
        int a = i, b = j, left = word;
        for (int at = 0; at < length; at++) {
          a = leads[left % leads.length][a];
          b = leads[left % leads.length][b];
          left /= leads.length;
        }
        if (has(finals, a) != has(finals, b)) return length;
      }
      words *= leads.length;
    }
    return NONE;
  }

  // ---- THE TABLE: REFINED 2, sets by KIND 2

  private static void tables() {
    for (int first = 0; first < 256; first++) {
      for (int second = 0; second < 256; second += 1 + first % 3) {
        int[] table = {first, second, first ^ 129, second & 15};
        SplitClasses x = new SplitClasses();
        for (int i = 0; i < 4; i++) x.columns(i, table[i]);
        List<Integer> want = List.of(15);
        String what = "COLUMNS " + first + ", " + second;
        for (int column = 0; column < 8; column++) {
          int set = 0;
          for (int i = 0; i < 4; i++) if (has(table[i], column)) set |= 1 << i;
          due(what + " setBy(2, " + column + ")", x.setBy(2, column, 0), set);
          want = split(want, set);
        }
        ofItself(what, x, 2, want);
        due(what + " like rows", x.alike(0, 1, 2), first == second ? 1 : 0);
        due(what + " refine(2)", x.refine(2), want.size());
        due(what + " refine(2)", rowOf(x), want);
      }
    }
  }

  public static void main(String[] args) {
    for (int n = 1; n <= 5; n++) splitting(n);
    for (int n = 1; n <= 5; n++) graphs(n, true);
    graphs(6, false);
    for (int n = 1; n <= 4; n++) machines(n, 1);
    for (int n = 1; n <= 3; n++) machines(n, 2);
    for (int n = 1; n <= 2; n++) machines(n, 3);
    tables();
    System.out.println(wrong == 0 ? "all answers are as due, of " + looked : wrong + " answers are not as due");
    if (wrong != 0) System.exit(1);
  }
}
