/** Each promise of the document on its own: ordinary inputs, its edges, wrong inputs. */
public final class SplitClassesPromises {
  private static final int NONE = -1, UNKNOWN = -1000000001, OUTSIDE = -1000000002, NOT = -1000000003, FULL = -1000000004;
  private static final int LOW = Integer.MIN_VALUE, HIGH = Integer.MAX_VALUE;
  private static int wrong = 0;
  private static int promise = 0;

  private static void due(String what, long got, long want) {
    if (got != want) {
      wrong++;
      System.out.println("promise " + promise + ": " + what + " answered " + got + ", due is " + want);
    }
  }

  private static void due(String what, String got, String want) {
    if (!got.equals(want)) {
      wrong++;
      System.out.println("promise " + promise + ": " + what + " is " + got + ", due is " + want);
    }
  }

  private static SplitClasses of(int n) {
    SplitClasses x = new SplitClasses();
    x.items(n);
    return x;
  }

  private static SplitClasses withEdges(int n, int... ends) {
    SplitClasses x = of(n);
    for (int e = 0; e + 1 < ends.length; e += 2) x.edge(ends[e], ends[e + 1], 1);
    return x;
  }

  private static String classes(SplitClasses x) {
    StringBuilder text = new StringBuilder();
    for (int k = 0; k < x.told(1); k++) text.append(k == 0 ? "" : " ").append(x.classAt(k));
    return text.toString();
  }

  private static String searched(SplitClasses x, int s) {
    StringBuilder text = new StringBuilder();
    for (int k = 0; k < x.told(0); k++) text.append(k == 0 ? "" : " ").append(x.search(s, k));
    return text.toString();
  }

  private static String nears(SplitClasses x) {
    StringBuilder text = new StringBuilder();
    for (int i = 0; i < x.told(0); i++) text.append(i == 0 ? "" : " ").append(x.item(i, 1));
    return text.toString();
  }

  /** All that a refused call must leave. */
  private static String all(SplitClasses x) {
    StringBuilder text = new StringBuilder();
    for (int what = 0; what <= 5; what++) text.append(x.told(what)).append(' ');
    for (int what = 13; what <= 16; what++) text.append(x.told(what)).append(' ');
    for (int i = 0; i < x.told(0); i++)
      for (int what = 0; what <= 6; what++) text.append(x.item(i, what)).append(' ');
    return text.append(classes(x)).toString();
  }

  private static SplitClasses busy() {
    SplitClasses x = withEdges(5, 0, 1, 1, 2, 3, 4);
    x.columns(2, 9);
    x.letters(2);
    x.goes(0, 1, 3);
    x.finals(20);
    x.split(18);
    x.seed(77);
    x.write(1, 0);
    return x;
  }

  private static void newObject() {
    promise = 1;
    SplitClasses x = new SplitClasses();
    int[] told = {4, 1, 0, 0, 1, 0, 1, 4, 1, 1, 1, NONE, 1, 0, NONE, 0, 0};
    for (int what = 0; what < told.length; what++) due("told(" + what + ")", x.told(what), told[what]);
    for (int i = 0; i < 4; i++) {
      int[] item = {0, 0, 0, 4, i, NONE, NONE};
      for (int what = 0; what < item.length; what++) due("item(" + i + ", " + what + ")", x.item(i, what), item[what]);
    }
    due("classes", classes(x), "15");
    due("goBack(0)", x.goBack(0), NOT);
    due("goBack(1)", x.goBack(1), NOT);
    due("another object", classes(new SplitClasses()), "15");
  }

  private static void told() {
    promise = 2;
    SplitClasses x = busy();
    int[] told = {5, 2, 2, 3, 2, 20, 4, 4, 2, 2, 3, NONE, 2, 1, NONE, 9, 77};
    for (int what = 0; what < told.length; what++) due("told(" + what + ")", x.told(what), told[what]);
    for (int what : new int[] {-1, 17, LOW, HIGH}) due("told(" + what + ")", x.told(what), OUTSIDE);
    String before = all(x);
    for (int what = -1; what <= 17; what++) x.told(what);
    due("all", all(x), before);
    chords();
  }

  private static void chords() {
    SplitClasses ring = withEdges(4, 0, 1, 1, 2, 2, 3, 3, 0);
    due("FAULT of a ring of four", ring.told(11), 2);
    due("CLIQUE of a ring of four", ring.told(12), NONE);
    ring.edge(1, 3, 1);
    due("FAULT with a chord", ring.told(11), NONE);
    due("CLIQUE with a chord", ring.told(12), 3);
    SplitClasses three = withEdges(3, 0, 1, 1, 2, 2, 0);
    due("FAULT of a ring of three", three.told(11), NONE);
    due("CLIQUE of a ring of three", three.told(12), 3);
    SplitClasses aloof = withEdges(12, 5, 6, 6, 7, 7, 8, 8, 9, 9, 5);
    due("FAULT of a ring away from 0", aloof.told(11), 8);
    due("CLIQUE of a ring away from 0", aloof.told(12), NONE);
    SplitClasses full = of(12);
    for (int i = 0; i < 12; i++) for (int j = 0; j < i; j++) full.edge(i, j, 1);
    due("EDGES, all", full.told(3), 66);
    due("CLIQUE, all", full.told(12), 12);
    due("NEAR, each another", full.told(6), 12);
    due("NEAR and itself, all the same", full.told(7), 1);
    due("evenly many", full.told(10), 1);
    due("CLIQUE of one", of(1).told(12), 1);
    due("FAULT of one", of(1).told(11), NONE);
  }

  private static void item() {
    promise = 3;
    SplitClasses x = busy();
    int[][] items = {{0, 2, 1, 3, 0, 3, NONE}, {0, 5, 0, 2, 1, 1, NONE}, {9, 2, 1, 3, 2, 2, NONE}, {0, 16, 1, 3, 3, 3, NONE}, {0, 8, 0, 2, 4, 4, NONE}};
    for (int i = 0; i < 5; i++)
      for (int what = 0; what < 7; what++) due("item(" + i + ", " + what + ")", x.item(i, what), items[i][what]);
    x.letters(3);
    due("item(4, 6)", x.item(4, 6), 4);
    for (int i : new int[] {-1, 5, LOW, HIGH}) {
      due("item(" + i + ", 0)", x.item(i, 0), UNKNOWN);
      due("item(" + i + ", 7)", x.item(i, 7), UNKNOWN);
    }
    for (int what : new int[] {-1, 7, LOW, HIGH}) due("item(0, " + what + ")", x.item(0, what), OUTSIDE);
  }

  private static void classAt() {
    promise = 4;
    SplitClasses x = of(12);
    due("classAt(0)", x.classAt(0), 4095);
    for (int i = 11; i >= 0; i--) x.split(1 << i);
    for (int k = 0; k < 12; k++) due("classAt(" + k + ")", x.classAt(k), 2048 >> k);
    for (int k : new int[] {-1, 12, LOW, HIGH}) due("classAt(" + k + ")", x.classAt(k), UNKNOWN);
    due("classAt(0) of one", of(1).classAt(0), 1);
    due("classAt(1) of one", of(1).classAt(1), UNKNOWN);
  }

  private static void setBy() {
    promise = 5;
    SplitClasses x = withEdges(5, 0, 1, 1, 2, 2, 0, 3, 4);
    x.columns(1, 129);
    x.columns(4, 128);
    x.letters(2);
    x.goes(0, 1, 4);
    x.goes(2, 1, 3);
    x.finals(9);
    x.split(24);
    due("NEAR", x.setBy(0, 0, HIGH), 6);
    due("NEAR and itself", x.setBy(1, 0, LOW), 7);
    due("COLUMN 0", x.setBy(2, 0, -5), 2);
    due("COLUMN 7", x.setBy(2, 7, 99), 18);
    due("COLUMN 3", x.setBy(2, 3, 0), 0);
    x.columns(0, 8);
    due("COLUMN 3 of the first ITEM", x.setBy(2, 3, 0), 1);
    due("by LETTER 0 to CLASS 0", x.setBy(3, 0, 0), 24);
    due("by LETTER 1 to CLASS 0", x.setBy(3, 1, 0), 29);
    due("by LETTER 1 to CLASS 1", x.setBy(3, 1, 1), 2);
    due("FINAL", x.setBy(4, LOW, HIGH), 9);
    due("none at least", x.setBy(5, 0, 0), 31);
    due("one at least", x.setBy(5, 0, 1), 24);
    due("two at least", x.setBy(5, 1, 2), 7);
    due("three at least", x.setBy(5, 1, 3), 0);
    due("twelve at least", x.setBy(5, 1, 12), 0);
    refusalsOfSets(x, false);
    due("WORK", x.told(2), 2);
    due("to be undone", x.told(15), 13);
  }

  /** setBy and by refuse the same. */
  private static void refusalsOfSets(SplitClasses x, boolean by) {
    int last = x.told(1), letters = x.told(4), n = x.told(0);
    int[][] refused = {
      {-1, 0, 0, OUTSIDE}, {6, 0, 0, OUTSIDE}, {LOW, 99, 99, OUTSIDE}, {HIGH, -1, -1, OUTSIDE},
      {0, -1, 0, UNKNOWN}, {0, n, 0, UNKNOWN}, {0, HIGH, 0, UNKNOWN}, {1, n, 0, UNKNOWN}, {1, LOW, 0, UNKNOWN},
      {2, -1, 0, UNKNOWN}, {2, 8, 0, UNKNOWN}, {3, -1, 0, UNKNOWN}, {3, letters, 0, UNKNOWN}, {3, 0, -1, UNKNOWN},
      {3, 0, last, UNKNOWN}, {3, HIGH, LOW, UNKNOWN}, {5, -1, 0, UNKNOWN}, {5, last, 0, UNKNOWN}, {5, last, 13, UNKNOWN},
      {5, 0, 13, OUTSIDE}, {5, 0, -1, OUTSIDE}, {5, LOW, LOW, UNKNOWN}, {5, 0, HIGH, OUTSIDE}};
    for (int[] r : refused)
      due((by ? "by(" : "setBy(") + r[0] + ", " + r[1] + ", " + r[2] + ")", by ? x.by(r[0], r[1], r[2]) : x.setBy(r[0], r[1], r[2]), r[3]);
  }

  private static void alike() {
    promise = 6;
    SplitClasses x = withEdges(4, 0, 2, 1, 2, 0, 1);
    x.split(1);
    due("of NEAR", x.alike(0, 1, 0), 0);
    due("of NEAR and itself", x.alike(0, 1, 1), 1);
    due("of COLUMNS", x.alike(0, 3, 2), 1);
    x.columns(3, 1);
    due("of other COLUMNS", x.alike(0, 3, 2), 0);
    due("of states", x.alike(0, 3, 3), 1);
    x.finals(8);
    due("of other states", x.alike(0, 3, 3), 0);
    due("of states by LETTERS", x.alike(0, 1, 3), 1);
    x.goes(1, 0, 3);
    due("of states that LETTERS tell apart", x.alike(0, 1, 3), 0);
    due("evenly many", x.alike(0, 2, 4), 1);
    due("not evenly many", x.alike(0, 3, 4), 0);
    for (int kind = 0; kind <= 4; kind++) due("itself", x.alike(3, 3, kind), 1);
    due("classes", classes(x), "1 14");
    for (int i : new int[] {-1, 4, LOW, HIGH}) {
      due("UNKNOWN, first", x.alike(i, 0, 0), UNKNOWN);
      due("UNKNOWN, second", x.alike(0, i, 0), UNKNOWN);
      due("UNKNOWN ahead of OUTSIDE", x.alike(0, i, 5), UNKNOWN);
    }
    for (int kind : new int[] {-1, 5, LOW, HIGH}) due("KIND " + kind, x.alike(0, 1, kind), OUTSIDE);
  }

  private static void apart() {
    promise = 7;
    SplitClasses x = of(12);
    for (int i = 0; i < 11; i++) x.goes(i, 0, i + 1);
    due("nothing is FINAL", x.apart(0, 11), NONE);
    x.finals(2048);
    due("one is FINAL", x.apart(0, 11), 0);
    due("the longest word", x.apart(0, 1), 10);
    due("the other way", x.apart(1, 0), 10);
    due("by the nearer one", x.apart(0, 8), 3);
    due("itself", x.apart(7, 7), NONE);
    x.split(1);
    due("CLASSES have no say", x.apart(0, 1), 10);
    x.letters(2);
    x.goes(0, 1, 11);
    due("a shorter word", x.apart(0, 1), 1);
    x.letters(1);
    due("without that LETTER", x.apart(0, 1), 10);
    x.finals(4095);
    due("all are FINAL", x.apart(0, 1), NONE);
    for (int i : new int[] {-1, 12, LOW, HIGH}) {
      due("UNKNOWN, first", x.apart(i, 0), UNKNOWN);
      due("UNKNOWN, second", x.apart(0, i), UNKNOWN);
    }
    due("of one", of(1).apart(0, 0), NONE);
  }

  private static void search() {
    promise = 8;
    SplitClasses x = withEdges(6, 0, 3, 3, 5, 5, 1, 1, 0, 2, 4);
    due("from 0", searched(x, 0), "0 1 3 5 2 4");
    due("from 4", searched(x, 4), "4 2 0 1 3 5");
    due("from 5", searched(x, 5), "5 1 3 0 2 4");
    x.split(32);
    due("CLASSES have no say", searched(x, 0), "0 1 3 5 2 4");
    due("CLASSES stay", classes(x), "32 31");
    due("those nearer to earlier ones first", searched(withEdges(5, 0, 3, 0, 4, 4, 2, 3, 1, 4, 1), 0), "0 3 4 1 2");
    due("no EDGES", searched(of(4), 2), "2 0 1 3");
    due("of one", of(1).search(0, 0), 0);
    for (int i : new int[] {-1, 6, LOW, HIGH}) {
      due("UNKNOWN s", x.search(i, 0), UNKNOWN);
      due("UNKNOWN k", x.search(0, i), UNKNOWN);
    }
  }

  private static void items() {
    promise = 9;
    SplitClasses x = busy();
    due("items(12)", x.items(12), 5);
    due("told(0)", x.told(0), 12);
    int[] told = {12, 1, 0, 0, 1, 0};
    for (int what = 0; what < told.length; what++) due("told(" + what + ")", x.told(what), told[what]);
    for (int i = 0; i < 12; i++) due("COLUMNS, NEAR, goes of " + i, "" + x.item(i, 0) + x.item(i, 1) + (x.item(i, 4) - i), "000");
    due("classes", classes(x), "4095");
    due("THE BOOK stays", x.told(13), 1);
    due("THE SEED stays", x.told(16), 77);
    x = busy();
    due("as many as before", x.items(5), 5);
    due("nothing is left", x.told(3) + " " + classes(x), "0 31");
    due("LETTERS of before", x.letters(2) + " " + x.item(0, 5), "1 0");
    x = busy();
    String before = all(x);
    for (int n : new int[] {0, 13, -1, LOW, HIGH}) due("items(" + n + ")", x.items(n), OUTSIDE);
    due("all", all(x), before);
    due("items(1)", x.items(1), 5);
    due("classes of one", classes(x), "1");
  }

  private static void edge() {
    promise = 10;
    SplitClasses x = of(3);
    due("comes", x.edge(0, 2, 1), 1);
    due("there already", x.edge(2, 0, 1), 1);
    due("another", x.edge(2, 1, 1), 2);
    due("NEAR", nears(x), "4 4 3");
    due("goes", x.edge(2, 0, 0), 1);
    due("gone already", x.edge(0, 2, 0), 1);
    due("NEAR", nears(x), "0 4 2");
    String before = all(x);
    for (int i : new int[] {-1, 3, LOW, HIGH, 0}) {
      due("UNKNOWN, first", x.edge(i, 0, 1), UNKNOWN);
      due("UNKNOWN, second", x.edge(0, i, 1), UNKNOWN);
      due("UNKNOWN ahead of OUTSIDE", x.edge(0, i, 2), UNKNOWN);
    }
    for (int is : new int[] {-1, 2, LOW, HIGH}) due("is " + is, x.edge(0, 1, is), OUTSIDE);
    due("all", all(x), before);
  }

  private static void columns() {
    promise = 11;
    SplitClasses x = of(3);
    due("columns(2, 255)", x.columns(2, 255), 0);
    due("columns(2, 7)", x.columns(2, 7), 255);
    due("columns(2, 0)", x.columns(2, 0), 7);
    due("columns(0, 128)", x.columns(0, 128), 0);
    due("item(0, 0)", x.item(0, 0), 128);
    due("item(1, 0)", x.item(1, 0), 0);
    String before = all(x);
    for (int i : new int[] {-1, 3, LOW, HIGH}) {
      due("UNKNOWN", x.columns(i, 1), UNKNOWN);
      due("UNKNOWN ahead of OUTSIDE", x.columns(i, 256), UNKNOWN);
    }
    for (int set : new int[] {-1, 256, LOW, HIGH}) due("SET " + set, x.columns(0, set), OUTSIDE);
    due("all", all(x), before);
  }

  private static void letters() {
    promise = 12;
    SplitClasses x = of(3);
    due("letters(3)", x.letters(3), 1);
    x.goes(0, 0, 1);
    x.goes(1, 1, 2);
    x.goes(2, 2, 0);
    due("letters(3)", x.letters(3), 3);
    due("all stay", x.item(1, 5) + " " + x.item(2, 6), "2 0");
    due("letters(2)", x.letters(2), 3);
    due("letters(3)", x.letters(3), 2);
    due("the last one is new", x.item(1, 5) + " " + x.item(2, 6), "2 2");
    due("letters(1)", x.letters(1), 3);
    due("item(1, 5)", x.item(1, 5), NONE);
    due("letters(3)", x.letters(3), 1);
    due("the first one stays", x.item(0, 4) + " " + x.item(1, 5) + " " + x.item(2, 6), "1 1 2");
    String before = all(x);
    for (int l : new int[] {0, 4, -1, LOW, HIGH}) due("letters(" + l + ")", x.letters(l), OUTSIDE);
    due("all", all(x), before);
  }

  private static void goes() {
    promise = 13;
    SplitClasses x = of(3);
    x.letters(2);
    due("goes(2, 1, 0)", x.goes(2, 1, 0), 2);
    due("goes(2, 1, 1)", x.goes(2, 1, 1), 0);
    due("goes(2, 0, 0)", x.goes(2, 0, 0), 2);
    due("item(2, ..)", x.item(2, 4) + " " + x.item(2, 5) + " " + x.item(2, 6), "0 1 -1");
    String before = all(x);
    for (int i : new int[] {-1, 3, LOW, HIGH}) {
      due("UNKNOWN, first", x.goes(i, 0, 0), UNKNOWN);
      due("UNKNOWN, last", x.goes(0, 0, i), UNKNOWN);
    }
    for (int letter : new int[] {-1, 2, LOW, HIGH}) due("LETTER " + letter, x.goes(0, letter, 0), UNKNOWN);
    due("all", all(x), before);
  }

  private static void finals() {
    promise = 14;
    SplitClasses x = of(12);
    due("finals(4095)", x.finals(4095), 0);
    due("finals(5)", x.finals(5), 4095);
    due("told(5)", x.told(5), 5);
    due("finals(0)", x.finals(0), 5);
    String before = all(x);
    for (int set : new int[] {-1, 4096, 4097, LOW, HIGH}) due("finals(" + set + ")", x.finals(set), UNKNOWN);
    due("all", all(x), before);
  }

  private static void begin() {
    promise = 15;
    SplitClasses x = busy();
    x.split(1);
    due("begin()", x.begin(), 3);
    due("classes", classes(x), "31");
    due("WORK", x.told(2), 0);
    due("the rest stays", x.told(3) + " " + x.told(4) + " " + x.told(5), "3 2 20");
    due("begin() again", x.begin(), 1);
    due("both are deeds", x.told(15), 12);
  }

  private static void split() {
    promise = 16;
    SplitClasses x = of(12);
    due("nothing", x.split(0), 1);
    due("all", x.split(4095), 1);
    due("WORK", x.told(2), 12);
    due("evens", x.split(1365), 2);
    due("evens first", classes(x), "1365 2730");
    due("the latter half", x.split(4032), 4);
    due("each CLASS in its place", classes(x), "1344 21 2688 42");
    due("one whole CLASS and none of others", x.split(21), 4);
    due("the same row", classes(x), "1344 21 2688 42");
    due("WORK", x.told(2), 27);
    for (int i = 0; i < 12; i++) x.split(1 << i);
    due("each alone", classes(x), "64 256 1024 1 4 16 128 512 2048 2 8 32");
    due("WORK", x.told(2), 39);
    String before = all(x);
    for (int set : new int[] {-1, 4096, 8191, LOW, HIGH}) due("split(" + set + ")", x.split(set), UNKNOWN);
    due("all", all(x), before);
  }

  private static void by() {
    promise = 17;
    SplitClasses x = withEdges(5, 0, 1, 1, 2, 3, 4);
    x.columns(2, 4);
    x.goes(0, 0, 3);
    x.finals(17);
    due("NEAR", x.by(0, 1, 0), 2);
    due("classes", classes(x), "5 26");
    due("by LETTER to CLASS 1", x.by(3, 0, 1), 3);
    due("classes", classes(x), "1 4 26");
    due("FINAL", x.by(4, -1, -1), 4);
    due("classes", classes(x), "1 4 16 10");
    due("NEAR and itself", x.by(1, 3, 0), 5);
    due("classes", classes(x), "1 4 16 8 2");
    due("WORK", x.told(2), 2 + 4 + 2 + 2);
    x.begin();
    due("COLUMN", x.by(2, 2, 0), 2);
    due("classes", classes(x), "4 27");
    due("NEAR one of CLASS 0", x.by(5, 0, 1), 3);
    due("classes", classes(x), "4 2 25");
    due("all, be it that none is split", x.by(5, 0, 0), 3);
    due("WORK", x.told(2), 1 + 1 + 5);
    String before = all(x);
    refusalsOfSets(x, true);
    due("all", all(x), before);
  }

  private static void refine() {
    promise = 18;
    SplitClasses x = withEdges(5, 0, 2, 1, 2, 3, 4);
    due("twins", x.refine(0), 4);
    due("by NEAR, rising", classes(x), "4 3 16 8");
    x.begin();
    due("near twins", x.refine(1), 4);
    due("by NEAR and itself, rising", classes(x), "4 1 2 24");
    x.begin();
    due("no COLUMNS", x.refine(2), 1);
    x.columns(1, 2);
    x.columns(3, 3);
    x.columns(4, 128);
    due("like rows", x.refine(2), 4);
    due("by COLUMNS, rising", classes(x), "8 2 16 5");
    x.begin();
    x.split(16);
    due("evenly many, each within one that was", x.refine(4), 4);
    due("ARRANGED", classes(x), "3 4 8 16");
    x.begin();
    due("evenly many", x.refine(4), 3);
    due("ARRANGED", classes(x), "3 4 24");
    due("WORK is not counted", x.told(2), 0);
    String before = all(x);
    for (int kind : new int[] {-1, 5, LOW, HIGH}) due("refine(" + kind + ")", x.refine(kind), OUTSIDE);
    due("all", all(x), before);
    refineByMachine();
  }

  private static void refineByMachine() {
    SplitClasses x = of(6);
    x.letters(2);
    x.finals(36);
    x.goes(0, 0, 1);
    x.goes(1, 1, 2);
    x.goes(3, 0, 4);
    x.goes(4, 1, 5);
    due("states", x.refine(3), 3);
    due("ARRANGED", classes(x), "9 18 36");
    x.begin();
    x.split(32);
    due("each within one that was", x.refine(3), 6);
    due("ARRANGED", classes(x), "1 2 4 8 16 32");
    SplitClasses chain = of(12);
    for (int i = 0; i < 11; i++) chain.goes(i, 0, i + 1);
    due("no FINAL", chain.refine(3), 1);
    chain.finals(2048);
    due("one FINAL", chain.refine(3), 12);
    due("ARRANGED", classes(chain), "1 2 4 8 16 32 64 128 256 512 1024 2048");
    SplitClasses row = of(12);
    for (int i = 0; i < 11; i++) row.edge(i, i + 1, 1);
    due("evenly many in a row", row.refine(4), 6);
    due("ARRANGED", classes(row), "2049 1026 516 264 144 96");
    SplitClasses path = withEdges(3, 0, 1, 1, 2);
    path.split(1);
    due("told apart by one ITEM alone", path.refine(4), 3);
    SplitClasses only = of(4);
    only.split(12);
    only.refine(4);
    due("ARRANGED, be it that none is split", classes(only), "3 12");
    due("refine of one", of(1).refine(4), 1);
  }

  private static void join() {
    promise = 19;
    SplitClasses x = of(5);
    for (int i = 0; i < 5; i++) x.split(1 << i);
    due("join(1)", x.join(1), 4);
    due("classes", classes(x), "1 6 8 16");
    due("join(2)", x.join(2), 3);
    due("classes", classes(x), "1 6 24");
    String before = all(x);
    for (int k : new int[] {-1, 2, 3, LOW, HIGH}) due("join(" + k + ")", x.join(k), UNKNOWN);
    due("all", all(x), before);
    due("join(0)", x.join(0), 2);
    due("join(0)", x.join(0), 1);
    due("one CLASS", x.join(0), UNKNOWN);
    due("WORK stays", x.told(2), 5);
  }

  private static void arrange() {
    promise = 20;
    SplitClasses x = of(12);
    due("one CLASS", x.arrange(), 0);
    for (int i = 11; i >= 0; i--) x.split(1 << i);
    due("turned around", x.arrange(), 12);
    due("again", x.arrange(), 0);
    x.begin();
    x.split(2);
    x.split(12);
    due("2 12 others", classes(x), "2 12 4081");
    due("by least ITEMS", x.arrange(), 3);
    due("classes", classes(x), "4081 2 12");
    x.begin();
    x.split(4088);
    x.split(4);
    due("classes", classes(x), "4088 4 3");
    due("one stays", x.arrange(), 2);
    due("classes", classes(x), "3 4 4088");
    due("WORK stays", x.told(2), 10);
  }

  private static void drift() {
    promise = 21;
    SplitClasses x = of(12);
    x.letters(3);
    x.split(7);
    x.seed(99);
    int edges = x.drift(12);
    due("EDGES", edges, x.told(3));
    due("each time is a deed", x.told(15), 15);
    due("CLASSES, WORK stay", classes(x) + " " + x.told(2), "7 4088 3");
    String before = all(x);
    for (int n : new int[] {0, 13, -1, LOW, HIGH}) due("drift(" + n + ")", x.drift(n), OUTSIDE);
    due("all", all(x), before);
    driftByHand(1, 3);
    driftByHand(12, 1);
    driftByHand(5, 2);
  }

  /** The draws once more, outside the object; the same changes told one by one. */
  private static void driftByHand(int n, int letters) {
    SplitClasses drawn = of(n), told = of(n);
    drawn.letters(letters);
    told.letters(letters);
    long[] seed = {2147483647L};
    drawn.seed(2147483647);
    for (int time = 0; time < 40; time++) {
      drawn.drift(1);
      int what = draw(seed, 4);
      if (what == 0) {
        int i = draw(seed, n), j = draw(seed, n);
        if (i != j) told.edge(i, j, (told.item(i, 1) >> j & 1) == 1 ? 0 : 1);
      } else if (what == 1) {
        int i = draw(seed, n);
        told.columns(i, draw(seed, 256));
      } else if (what == 2) {
        int i = draw(seed, n), letter = draw(seed, letters);
        told.goes(i, letter, draw(seed, n));
      } else {
        told.finals(draw(seed, 1 << n));
      }
      due("THE SEED", drawn.told(16), seed[0]);
    }
    told.seed((int) seed[0]);
    due("to be undone", drawn.told(15), 16);
    for (int i = 0; i < 16; i++) told.begin();
    due("what is so", all(drawn), all(told));
  }

  private static int draw(long[] seed, int n) {
    seed[0] = (seed[0] * 1103515245L + 12345L) % 2147483648L;
    return (int) (seed[0] / 65536 % n);
  }

  private static void undo() {
    promise = 22;
    SplitClasses x = new SplitClasses();
    due("nothing yet", x.undo(1), NOT);
    for (int n : new int[] {0, 17, -1, LOW, HIGH}) due("undo(" + n + ")", x.undo(n), OUTSIDE);
    eachDeedAlone();
    for (int time = 0; time < 17; time++) x.columns(0, time + 1);
    due("16 at most", x.told(15), 16);
    due("undo(16)", x.undo(16), 0);
    due("all but the first", x.item(0, 0), 1);
    due("no more", x.undo(1), NOT);
    x.begin();
    x.split(1);
    due("not so many", x.undo(3), NOT);
    due("what is refused changes nothing", classes(x) + " " + x.told(15), "1 14 2");
    due("undo(1)", x.undo(1), 1);
    x.join(7);
    x.edge(0, 0, 1);
    due("what is refused is no deed", x.told(15), 1);
    x.finals(0);
    due("what changes nothing is one", x.told(15), 2);
    x.seed(5);
    x.write(0, 0);
    x.drift(3);
    int seed = x.told(16);
    due("undo(3)", x.undo(3), 2);
    due("THE SEED, THE BOOK stay", x.told(16) + " " + x.told(13), seed + " 1");
    x.drift(12);
    x.drift(12);
    due("draws, 16 at most", x.told(15), 16);
  }

  private static void eachDeedAlone() {
    for (int deed = 0; deed < 13; deed++) {
      SplitClasses x = busy();
      x.split(4);
      String before = all(x);
      switch (deed) {
        case 0: x.items(9); break;
        case 1: x.edge(0, 1, 0); break;
        case 2: x.columns(2, 200); break;
        case 3: x.letters(1); break;
        case 4: x.goes(0, 1, 4); break;
        case 5: x.finals(31); break;
        case 6: x.begin(); break;
        case 7: x.split(3); break;
        case 8: x.by(0, 1, 0); break;
        case 9: x.refine(4); break;
        case 10: x.join(0); break;
        case 11: x.arrange(); break;
        default: x.drift(1); x.seed(77); break;
      }
      due("deed " + deed + " can be undone", x.told(15), 11);
      due("deed " + deed + " undone", x.undo(1), 10);
      due("as ahead of deed " + deed, all(x), before);
    }
  }

  private static void write() {
    promise = 23;
    SplitClasses x = of(3);
    x.split(1);
    due("write(0, 0)", x.write(0, 0), 1);
    due("write(1, 1)", x.write(1, 1), 2);
    due("none is wrong", x.told(14), NONE);
    due("any CLASS", x.write(2, HIGH), 3);
    due("the first wrong one", x.told(14), 2);
    due("any CLASS", x.write(2, LOW), 4);
    x.begin();
    due("otherwise now", x.told(14), 1);
    due("not a deed", x.undo(1) + " " + x.told(13) + " " + x.told(14), "2 4 2");
    for (int i : new int[] {-1, 3, LOW, HIGH}) due("write(" + i + ", 0)", x.write(i, 0), UNKNOWN);
    for (int entry = 5; entry <= 20; entry++) due("entry " + entry, x.write(0, 0), entry);
    due("FULL", x.write(0, 0), FULL);
    due("UNKNOWN ahead of FULL", x.write(3, 0), UNKNOWN);
    due("entries", x.told(13), 20);
    SplitClasses gone = of(3);
    gone.write(2, NONE);
    gone.tear();
    gone.write(0, 0);
    gone.write(2, 0);
    due("none is wrong", gone.told(14), NONE);
    gone.items(2);
    due("an ITEM that there is no more", gone.told(14), 1);
    gone.items(3);
    due("there again", gone.told(14), NONE);
    gone.tear();
    gone.write(2, NONE);
    gone.items(2);
    due("no more, though NONE is written", gone.told(14), 0);
  }

  private static void tear() {
    promise = 24;
    SplitClasses x = of(3);
    due("tear()", x.tear(), 0);
    for (int entry = 0; entry < 20; entry++) x.write(1, 5);
    due("tear()", x.tear(), 20);
    due("entries", x.told(13), 0);
    due("WRONG", x.told(14), NONE);
    due("write", x.write(1, 0), 1);
    due("not a deed", x.told(15), 1);
  }

  private static void seed() {
    promise = 25;
    SplitClasses x = new SplitClasses();
    due("seed(HIGH)", x.seed(HIGH), 0);
    due("seed(-1)", x.seed(-1), OUTSIDE);
    due("seed(LOW)", x.seed(LOW), OUTSIDE);
    due("told(16)", x.told(16), HIGH);
    due("seed(0)", x.seed(0), HIGH);
    due("seed(1)", x.seed(1), 0);
    due("not a deed", x.told(15), 0);
    x.drift(1);
    SplitClasses y = new SplitClasses();
    y.seed(1);
    y.drift(1);
    due("the same again", all(x), all(y));
  }

  private static void keep() {
    promise = 26;
    SplitClasses x = busy();
    due("keep(0)", x.keep(0), 1);
    due("nothing can be undone", x.told(15) + " " + x.undo(1), "0 " + NOT);
    String before = all(x);
    for (int i : new int[] {-1, 2, LOW, HIGH}) due("keep(" + i + ")", x.keep(i), UNKNOWN);
    due("all", all(x), before);
    x.begin();
    x.keep(2);
    due("what is refused changes nothing", x.told(15), 1);
    due("keep(1)", x.keep(1), 1);
    x.split(1);
    due("keep(1) again", x.keep(1), 1);
    x.items(12);
    due("goBack(1)", x.goBack(1), 1);
    due("the latter", classes(x), "1 30");
    due("goBack(0)", x.goBack(0), 1);
    due("the former", all(x), before);
  }

  private static void goBack() {
    promise = 27;
    SplitClasses x = busy();
    due("not kept", x.goBack(0), NOT);
    due("what is refused changes nothing", x.told(15), 9);
    x.keep(1);
    String before = all(x);
    due("the other is not kept", x.goBack(0), NOT);
    x.drift(12);
    x.items(12);
    x.drift(5);
    for (int i : new int[] {-1, 2, LOW, HIGH}) due("goBack(" + i + ")", x.goBack(i), UNKNOWN);
    due("to be undone", x.told(15), 16);
    due("goBack(1)", x.goBack(1), 1);
    due("all, THE SEED too", all(x), before);
    due("nothing can be undone", x.undo(1), NOT);
    x.begin();
    x.write(2, 1);
    x.seed(4);
    x.tear();
    x.write(3, 0);
    due("goBack(1) again", x.goBack(1), 1);
    due("THE SEED", x.told(16), 77);
    due("THE BOOK stays", x.told(13) + " " + x.told(14), "1 0");
    due("classes", classes(x), "18 13");
    due("WORK", x.told(2), 2);
  }

  public static void main(String[] args) {
    newObject();
    told();
    item();
    classAt();
    setBy();
    alike();
    apart();
    search();
    items();
    edge();
    columns();
    letters();
    goes();
    finals();
    begin();
    split();
    by();
    refine();
    join();
    arrange();
    drift();
    undo();
    write();
    tear();
    seed();
    keep();
    goBack();
    System.out.println(wrong == 0 ? "all answers are as due" : wrong + " answers are not as due");
    if (wrong != 0) System.exit(1);
  }
}
