import java.lang.reflect.Method;
import java.util.ArrayList;
import java.util.Arrays;
import java.util.List;
import java.util.Set;
import java.util.TreeSet;
import java.util.regex.Matcher;
import java.util.regex.Pattern;

/**
 * Each sentence of the document that names a boundary, in its own words, with a test of its own.
 *
 * <p>A test is a run of calls on a new object, written as text: "3*begin()=1" is begin() three times, 1 due each
 * time; without "=" any answer that is no refusal will do. LOW and HIGH are the least and the greatest int.
 * row()=3,4 is what classAt() tells of all CLASSES, found(s)=0,1 what search(s, ..) tells of all ITEMS.
 */
public final class SplitClassesBoundaries {
  private static final int MOST_CALLS = 512;
  private static final String TWELVE_CLASSES = " split(63) split(455) split(1170) split(2340) ";
  private static int wrong = 0;
  private static final Set<String> SENTENCES = new TreeSet<>();
  private static String sentence = "";

  private static void sentence(String words) {
    sentence = words;
    SENTENCES.add(words);
  }

  private static void due(String call, String got, String want) {
    if (!got.equals(want)) {
      wrong++;
      System.out.println("\"" + sentence + "\": " + call + " answered " + got + ", due is " + want);
    }
  }

  // ---- runs written as text

  private static final class Run {
    private static final Pattern CALL = Pattern.compile("(?:(\\d+)\\*)?(\\w+)\\(([^)]*)\\)(?:=(\\S+))?");
    private final SplitClasses x = new SplitClasses();
    private int calls = 0;

    Run go(String text) {
      for (String call : text.trim().split("\\s+")) if (!call.isEmpty()) one(call);
      return this;
    }

    private void one(String call) {
      Matcher m = CALL.matcher(call);
      if (!m.matches()) throw new IllegalArgumentException("no call: " + call);
      int times = m.group(1) == null ? 1 : Integer.parseInt(m.group(1));
      int[] arguments = numbers(m.group(3));
      for (int time = 0; time < times; time++) {
        String got = answer(m.group(2), arguments);
        if (m.group(4) != null) due(call, got, m.group(4));
        else due(call, isRefusal(got) ? got : "no refusal", "no refusal");
      }
    }

    private String answer(String name, int[] arguments) {
      if (name.equals("row")) return all("classAt", give("told", 1));
      if (name.equals("found")) return all("search", give("told", 0), arguments[0]);
      return named(give(name, arguments));
    }

    private String all(String name, int count, int... ahead) {
      List<String> answers = new ArrayList<>();
      for (int k = 0; k < count; k++) {
        int[] arguments = Arrays.copyOf(ahead, ahead.length + 1);
        arguments[ahead.length] = k;
        answers.add(named(give(name, arguments)));
      }
      return String.join(",", answers);
    }

    int give(String name, int... arguments) {
      calls++;
      if (calls > MOST_CALLS) throw new IllegalStateException("a run of more calls than the document speaks of");
      Class<?>[] types = new Class<?>[arguments.length];
      Object[] boxed = new Object[arguments.length];
      for (int i = 0; i < arguments.length; i++) {
        types[i] = int.class;
        boxed[i] = arguments[i];
      }
      try {
        Method method = SplitClasses.class.getMethod(name, types);
        return (Integer) method.invoke(x, boxed);
      } catch (ReflectiveOperationException e) {
        throw new IllegalStateException(name + Arrays.toString(arguments) + ": " + e.getCause(), e);
      }
    }

    /** All that can be seen of the object, but for what is behind undo() and goBack(). */
    String seen() {
      StringBuilder text = new StringBuilder();
      for (int what = 0; what <= 5; what++) text.append(give("told", what)).append(' ');
      for (int what = 13; what <= 16; what++) text.append(give("told", what)).append(' ');
      int n = give("told", 0);
      for (int i = 0; i < n; i++)
        for (int what = 0; what <= 6; what++) text.append(give("item", i, what)).append(' ');
      return text.append(answer("row", new int[0])).toString();
    }
  }

  private static int[] numbers(String text) {
    if (text.isEmpty()) return new int[0];
    String[] parts = text.split(",");
    int[] numbers = new int[parts.length];
    for (int i = 0; i < parts.length; i++) {
      if (parts[i].equals("LOW")) numbers[i] = Integer.MIN_VALUE;
      else if (parts[i].equals("HIGH")) numbers[i] = Integer.MAX_VALUE;
      else numbers[i] = Integer.parseInt(parts[i]);
    }
    return numbers;
  }

  private static String named(int answer) {
    switch (answer) {
      case -1: return "NONE";
      case -1000000001: return "UNKNOWN";
      case -1000000002: return "OUTSIDE";
      case -1000000003: return "NOT";
      case -1000000004: return "FULL";
      default: return "" + answer;
    }
  }

  private static boolean isRefusal(String answer) {
    return List.of("UNKNOWN", "OUTSIDE", "NOT", "FULL").contains(answer);
  }

  private static Run run(String text) { return new Run().go(text); }

  /** Refused calls leave nothing behind: neither what is so, nor what could be undone, nor THE BOOK, nor IMAGES. */
  private static void changesNothing(String setup, String refused) {
    int deeds = run(setup).give("told", 15);
    List<String> looks = new ArrayList<>(List.of("", "goBack(0)", "goBack(1)", "begin()", "drift(2)", "letters(3)", "tear()"));
    for (int n = 1; n <= deeds; n++) looks.add("undo(" + n + ")");
    for (String look : looks) {
      String text = setup + " " + refused;
      due(text + ", then " + look, after(run(text), look), after(run(setup), look));
    }
  }

  private static String after(Run run, String look) {
    if (look.isEmpty()) return run.seen();
    Matcher m = Run.CALL.matcher(look);
    if (!m.matches()) throw new IllegalArgumentException("no call: " + look);
    return run.answer(m.group(2), numbers(m.group(3))) + " " + run.seen();
  }

  // ---- the bounds of every number of every call

  /** A call with # for one number, its bounds, the refusal beyond them. */
  private static void bounds(String setup, String call, long least, long most, String refusal) {
    for (long inside : new long[] {least, most}) run(setup + " " + call.replace("#", "" + inside));
    for (long outside : new long[] {least - 1, most + 1, Integer.MIN_VALUE, Integer.MAX_VALUE}) {
      if (outside >= least && outside <= most || outside < Integer.MIN_VALUE || outside > Integer.MAX_VALUE) continue;
      changesNothing(setup, call.replace("#", "" + outside) + "=" + refusal);
    }
  }

  /** Every call, in an object of n ITEMS, l LETTERS, c CLASSES. */
  private static void boundsOfCalls(String setup, int n, int l, int c) {
    boundsOfWhatIsSo(setup, n, l, c);
    int all = (1 << n) - 1;
    sentence("N (1 .. 12); OUTSIDE");
    bounds(setup, "items(#)", 1, 12, "OUTSIDE");
    sentence("An ITEM has a SET of COLUMNS (0 .. 255); UNKNOWN, OUTSIDE");
    bounds(setup, "columns(#,1)", 0, n - 1, "UNKNOWN");
    bounds(setup, "columns(0,#)", 0, 255, "OUTSIDE");
    sentence("L (1 .. 3); OUTSIDE");
    bounds(setup, "letters(#)", 1, 3, "OUTSIDE");
    sentence("ITEM i goes by a LETTER to ITEM j; UNKNOWN");
    bounds(setup, "goes(#,0,0)", 0, n - 1, "UNKNOWN");
    bounds(setup, "goes(0,#,0)", 0, l - 1, "UNKNOWN");
    bounds(setup, "goes(0,0,#)", 0, n - 1, "UNKNOWN");
    sentence("a SET of ITEMS that has bits of none: finals(), split()");
    bounds(setup, "finals(#)", 0, all, "UNKNOWN");
    bounds(setup, "split(#)", 0, all, "UNKNOWN");
    sentence("REFINED by a KIND (0 .. 4); OUTSIDE");
    bounds(setup, "refine(#)", 0, 4, "OUTSIDE");
    sentence("n times BY DRAWS (1 .. 12); OUTSIDE");
    bounds(setup, "drift(#)", 1, 12, "OUTSIDE");
    sentence("write(): UNKNOWN; CLASS k, any");
    bounds(setup, "write(#,0)", 0, n - 1, "UNKNOWN");
    bounds(setup, "write(0,#)", Integer.MIN_VALUE, Integer.MAX_VALUE, "never");
    sentence("THE SEED becomes v (0 .. 2147483647); OUTSIDE");
    bounds(setup, "seed(#)", 0, 2147483647, "OUTSIDE");
    sentence("IMAGES 0, 1: keep(); UNKNOWN");
    bounds(setup, "keep(#)", 0, 1, "UNKNOWN");
    sentence("IMAGES 0, 1: goBack(); UNKNOWN");
    bounds(setup + " keep(0) keep(1)", "goBack(#)", 0, 1, "UNKNOWN");
  }

  private static void boundsOfWhatIsSo(String setup, int n, int l, int c) {
    sentence("told(): 0 to 16; OUTSIDE");
    bounds(setup, "told(#)", 0, 16, "OUTSIDE");
    sentence("item(): UNKNOWN, what = 0 to 6, OUTSIDE");
    bounds(setup, "item(#,0)", 0, n - 1, "UNKNOWN");
    bounds(setup, "item(0,#)", 0, 6, "OUTSIDE");
    sentence("classAt(): UNKNOWN");
    bounds(setup, "classAt(#)", 0, c - 1, "UNKNOWN");
    boundsOfSets(setup, "setBy", n, l, c);
    boundsOfSets(setup, "by", n, l, c);
    sentence("alike(): UNKNOWN, a KIND (0 .. 4), OUTSIDE");
    bounds(setup, "alike(#,0,0)", 0, n - 1, "UNKNOWN");
    bounds(setup, "alike(0,#,0)", 0, n - 1, "UNKNOWN");
    bounds(setup, "alike(0,0,#)", 0, 4, "OUTSIDE");
    sentence("apart(): UNKNOWN");
    bounds(setup, "apart(#,0)", 0, n - 1, "UNKNOWN");
    bounds(setup, "apart(0,#)", 0, n - 1, "UNKNOWN");
    sentence("search(): UNKNOWN (k, as an ITEM's number)");
    bounds(setup, "search(#,0)", 0, n - 1, "UNKNOWN");
    bounds(setup, "search(0,#)", 0, n - 1, "UNKNOWN");
  }

  private static void boundsOfSets(String setup, String name, int n, int l, int c) {
    sentence(name + "(): a KIND (0 .. 5), OUTSIDE");
    bounds(setup, name + "(#,0,0)", 0, 5, "OUTSIDE");
    sentence(name + "(): UNKNOWN (of x, y what the KIND asks)");
    bounds(setup, name + "(0,#,0)", 0, n - 1, "UNKNOWN");
    bounds(setup, name + "(1,#,0)", 0, n - 1, "UNKNOWN");
    bounds(setup, name + "(2,#,0)", 0, 7, "UNKNOWN");
    bounds(setup, name + "(3,#,0)", 0, l - 1, "UNKNOWN");
    bounds(setup, name + "(3,0,#)", 0, c - 1, "UNKNOWN");
    bounds(setup, name + "(5,#,0)", 0, c - 1, "UNKNOWN");
    sentence(name + "(): y (0 .. 12) of KIND 5, OUTSIDE");
    bounds(setup, name + "(5,0,#)", 0, 12, "OUTSIDE");
    sentence(name + "(): What is not told here has no say");
    for (String free : List.of("(0,0,#)", "(1,0,#)", "(2,0,#)", "(4,#,0)", "(4,0,#)"))
      bounds(setup, name + free, Integer.MIN_VALUE, Integer.MAX_VALUE, "never");
  }

  private static void boundsInSomeObjects() {
    String some = "items(5) letters(2) edge(0,1,1) edge(3,4,1) columns(2,9) goes(0,1,3) seed(77) write(1,0) write(3,1)"
      + " keep(1) finals(20) split(18) begin() split(3)";
    boundsOfCalls("", 4, 1, 1);
    boundsOfCalls("items(1)", 1, 1, 1);
    boundsOfCalls(some, 5, 2, 2);
    boundsOfCalls("items(12) letters(3) keep(0)" + TWELVE_CLASSES + "finals(2048)", 12, 3, 12);
    boundsOfPairs("items(2)", 2);
    boundsOfPairs(some, 5);
    boundsOfPairs("items(12)", 12);
    sentence("CLASS k and the next one become one; UNKNOWN (either)");
    bounds("split(3)", "join(#)", 0, 0, "UNKNOWN");
    bounds("items(12)" + TWELVE_CLASSES, "join(#)", 0, 10, "UNKNOWN");
  }

  private static void boundsOfPairs(String setup, int n) {
    sentence("An EDGE of two ITEMS comes (is 1), goes (0); UNKNOWN (one twice, too), OUTSIDE");
    bounds(setup, "edge(#,0,1)", 1, n - 1, "UNKNOWN");
    bounds(setup, "edge(0,#,1)", 1, n - 1, "UNKNOWN");
    bounds(setup, "edge(" + (n - 1) + ",#,0)", 0, n - 2, "UNKNOWN");
    bounds(setup, "edge(#," + (n - 1) + ",0)", 0, n - 2, "UNKNOWN");
    bounds(setup, "edge(0,1,#)", 0, 1, "OUTSIDE");
  }

  // ---- Terms

  private static void terms() {
    sentence("An object is used for at most 512 calls");
    run("items(12)=4 510*split(4095)=1 told(2)=6120");
    run("511*columns(0,255) columns(0,1)=255");
    run("items(12) drift(12) 509*finals(4095) told(15)=16");

    sentence("REFUSALS, of several the first in this order: UNKNOWN, OUTSIDE");
    run("item(4,7)=UNKNOWN item(-1,-1)=UNKNOWN alike(4,0,5)=UNKNOWN alike(0,-1,-1)=UNKNOWN");
    run("edge(0,4,2)=UNKNOWN edge(-1,0,-1)=UNKNOWN edge(1,1,2)=UNKNOWN columns(4,256)=UNKNOWN columns(-1,-1)=UNKNOWN");

    sentence("REFUSALS, of several the first in this order: OUTSIDE, NOT");
    run("undo(17)=OUTSIDE undo(0)=OUTSIDE undo(-1)=OUTSIDE undo(HIGH)=OUTSIDE undo(1)=NOT undo(16)=NOT");

    sentence("REFUSALS, of several the first in this order: UNKNOWN, NOT");
    run("goBack(2)=UNKNOWN goBack(-1)=UNKNOWN goBack(0)=NOT goBack(1)=NOT");

    sentence("REFUSALS: UNKNOWN, FULL");
    run("20*write(0,0) write(4,0)=UNKNOWN write(-1,0)=UNKNOWN write(0,0)=FULL");

    sentence("OUTSIDE (KIND; ahead of UNKNOWN; y of KIND 5)");
    for (String name : List.of("setBy", "by")) {
      run(name + "(6,99,99)=OUTSIDE " + name + "(-1,-1,-1)=OUTSIDE " + name + "(LOW,LOW,LOW)=OUTSIDE " + name + "(HIGH,HIGH,HIGH)=OUTSIDE");
      run(name + "(5,1,13)=UNKNOWN " + name + "(5,-1,-1)=UNKNOWN " + name + "(5,0,13)=OUTSIDE " + name + "(5,0,-1)=OUTSIDE");
    }

    sentence("a SET of ITEMS that has bits of none");
    run("items(3) split(8)=UNKNOWN split(9)=UNKNOWN split(LOW)=UNKNOWN finals(8)=UNKNOWN finals(15)=UNKNOWN split(7) finals(7)");
    run("items(3) finals(7) items(2) finals(4)=UNKNOWN split(7)=UNKNOWN split(3)=1");

    sentence("What is refused changes nothing");
    String full = "write(0,0) 18*write(1,0) write(2,1) split(1) split(3)";
    changesNothing(full, "write(0,0)=FULL write(3,1)=FULL");
    changesNothing(full, "undo(3)=NOT undo(16)=NOT");
    changesNothing(full + " keep(1) drift(2)", "goBack(0)=NOT goBack(0)=NOT");
    changesNothing(full + " keep(0) seed(5) begin()", "goBack(1)=NOT undo(2)=NOT undo(17)=OUTSIDE undo(0)=OUTSIDE");
    changesNothing("seed(3) 16*split(1)", "split(16)=UNKNOWN drift(13)=OUTSIDE items(0)=OUTSIDE edge(2,2,0)=UNKNOWN join(1)=UNKNOWN");
  }

  // ---- section 1, promises 1, 3, 4

  private static void atFirst() {
    sentence("A new object: as told at first");
    run("told(0)=4 told(1)=1 told(2)=0 told(3)=0 told(4)=1 told(5)=0 told(13)=0 told(14)=NONE told(15)=0 told(16)=0");
    run("row()=15 undo(1)=NOT goBack(0)=NOT goBack(1)=NOT tear()=0 seed(7)=0 classAt(1)=UNKNOWN item(4,0)=UNKNOWN");
    for (int i = 0; i < 4; i++)
      run("item(I,0)=0 item(I,1)=0 item(I,2)=0 item(I,3)=4 item(I,4)=I item(I,5)=NONE item(I,6)=NONE".replace("I", "" + i));

    sentence("where it goes by LETTER 0 to 2 (NONE: there is no such)");
    run("items(12) item(11,4)=11 item(11,5)=NONE item(11,6)=NONE item(11,7)=OUTSIDE letters(2) item(11,5)=11 item(11,6)=NONE");
    run("items(12) letters(3) item(11,6)=11 goes(11,2,0) item(11,6)=0 letters(2) item(11,6)=NONE item(11,7)=OUTSIDE");

    sentence("EDGES: pairs of unlike ITEMS; NEAR: those that have an EDGE with it");
    run("items(2) edge(1,0,1)=1 item(0,1)=2 item(1,1)=1 edge(0,0,1)=UNKNOWN edge(1,1,0)=UNKNOWN told(3)=1");
    run("items(1) edge(0,0,1)=UNKNOWN edge(0,1,1)=UNKNOWN told(3)=0 item(0,1)=0");
    Run whole = run("items(12)" + allEdges(12) + "told(3)=66");
    for (int i = 0; i < 12; i++) whole.go("item(" + i + ",1)=" + (4095 - (1 << i)));

    sentence("CLASSES: each ITEM is in just one; ITEMS in this (how many)");
    run("items(12) item(11,2)=0 item(11,3)=12" + TWELVE_CLASSES + "item(11,3)=1 told(1)=12 classAt(12)=UNKNOWN");
    run("items(1) item(0,3)=1 classAt(0)=1 classAt(1)=UNKNOWN told(1)=1");
  }

  private static String allEdges(int n) {
    StringBuilder text = new StringBuilder(" ");
    for (int i = 0; i < n; i++) for (int j = 0; j < i; j++) text.append("edge(").append(i).append(',').append(j).append(",1) ");
    return text.toString();
  }

  /** A ring of ITEMS from the first to the last one. */
  private static String ring(int first, int last) {
    StringBuilder text = new StringBuilder(" ");
    for (int i = first; i < last; i++) text.append("edge(").append(i).append(',').append(i + 1).append(",1) ");
    return text.append("edge(").append(last).append(',').append(first).append(",1) ").toString();
  }

  private static void splitting() {
    sentence("SPLIT: of each CLASS that has ITEMS in the SET and others");
    run("split(0)=1 row()=15 split(15)=1 row()=15 split(8)=2 row()=8,7 split(8)=2 row()=8,7 split(7)=2 row()=8,7");
    run("items(1) split(1)=1 split(0)=1 row()=1 split(2)=UNKNOWN");
    run("items(12)" + TWELVE_CLASSES + "row()=2,4,1,16,32,8,128,256,64,1024,2048,512 split(1365)=12 row()=2,4,1,16,32,8,128,256,64,1024,2048,512");

    sentence("those in the SET first, the others behind it");
    run("items(12) split(2048)=2 row()=2048,2047 split(1)=3 row()=2048,1,2046 split(2049)=3 row()=2048,1,2046"
      + " split(3072)=4 row()=2048,1,1024,1022");

    sentence("WORK: SETS by which anything was SPLIT, or might have been");
    run("split(0) told(2)=0 split(15) told(2)=4 split(15) told(2)=8 split(1) told(2)=9 split(1) told(2)=10 split(14) told(2)=13");
    run("by(0,0,0) told(2)=0 by(1,0,0) told(2)=1 by(4,0,0) told(2)=1 by(5,0,0) told(2)=5 by(5,0,12) told(2)=5"
      + " by(3,0,0) told(2)=6 by(3,0,1) told(2)=9 by(2,7,0) told(2)=9");

    sentence("WORK: since begin() (also as N is told)");
    run("split(15) begin() told(2)=0 split(3) told(2)=2 items(4) told(2)=0 split(7) told(2)=3");

    sentence("WORK: counted by split() and by() alone");
    run("edge(0,1,1) finals(3) split(1) refine(0) refine(1) refine(2) refine(3) refine(4) told(2)=1 arrange()"
      + " join(0) drift(12) told(2)=1");
    run("split(3) split(16)=UNKNOWN by(0,4,0)=UNKNOWN by(6,0,0)=OUTSIDE setBy(1,0,0)=1 search(0,0) told(9) told(2)=2");

    sentence("ARRANGED: CLASSES in the order of their least ITEMS");
    run("items(12) split(2049) split(1026) row()=2049,1026,1020 arrange()=0 row()=2049,1026,1020");
    run("items(12) split(3072) split(1023) row()=3072,1023 arrange()=2 row()=1023,3072");
  }

  // ---- section 2, promises 2, 5, 6, 7, 17, 18

  private static void setsByKind() {
    sentence("KIND 0, 1: NEAR of ITEM x; NEAR of ITEM x, and x");
    run("items(12) setBy(0,11,0)=0 setBy(1,11,0)=2048 edge(0,11,1) setBy(0,11,0)=1 setBy(1,11,0)=2049 setBy(0,0,0)=2048");
    run("items(1) setBy(0,0,0)=0 setBy(1,0,0)=1 setBy(1,1,0)=UNKNOWN");

    sentence("KIND 2: ITEMS that have COLUMN x");
    run("items(12) columns(11,128) columns(0,127) setBy(2,7,0)=2048 setBy(2,0,0)=1 setBy(2,6,0)=1"
      + " columns(11,255) setBy(2,0,0)=2049");

    sentence("KIND 3: ITEMS that go by LETTER x to one in CLASS y");
    run("letters(3) goes(3,2,0) split(1) setBy(3,2,0)=9 setBy(3,2,1)=6 setBy(3,0,1)=14 setBy(3,2,2)=UNKNOWN"
      + " setBy(3,3,0)=UNKNOWN");

    sentence("KIND 4: FINAL");
    run("setBy(4,0,0)=0 finals(15) setBy(4,LOW,HIGH)=15 by(4,HIGH,LOW)=1 told(2)=4");

    sentence("KIND 5: ITEMS with y (0 .. 12) ITEMS at least of CLASS x in their NEAR");
    run("setBy(5,0,0)=15 setBy(5,0,1)=0 setBy(5,0,12)=0 edge(0,3,1) setBy(5,0,1)=9 setBy(5,0,2)=0");
    run("items(12)" + allEdges(12) + "setBy(5,0,0)=4095 setBy(5,0,11)=4095 setBy(5,0,12)=0 setBy(5,0,13)=OUTSIDE split(1) setBy(5,0,1)=4094 setBy(5,1,11)=1 setBy(5,1,10)=4095");
  }

  private static void refined() {
    sentence("REFINED 0, 1, 2: SPLIT by the SETS of this KIND of all x, rising");
    run("items(12) edge(11,0,1) refine(0)=3 row()=2048,1,2046");
    run("items(12) edge(11,0,1) refine(1)=11 row()=2049,2,4,8,16,32,64,128,256,512,1024");
    run("items(12) columns(0,128) columns(11,1) columns(5,129) refine(2)=4 row()=32,2048,1,2014");
    run("items(1) refine(0)=1 refine(1)=1 refine(2)=1 refine(3)=1 refine(4)=1 row()=1");

    sentence("REFINED 3: SPLIT by FINAL; ARRANGED");
    run("finals(0) refine(3)=1 finals(15) refine(3)=1 row()=15 finals(12) refine(3)=2 row()=3,12");
    run("split(12) row()=12,3 refine(3)=2 row()=3,12");

    sentence("REFINED 3: as few CLASSES as can be, of two ITEMS in one CLASS each LETTER leads into one CLASS");
    run("items(12)" + chain() + "finals(2048) refine(3)=12 row()=1,2,4,8,16,32,64,128,256,512,1024,2048");
    run("items(12)" + chain() + "split(2048) refine(3)=12 begin() refine(3)=1");
    run("items(3) letters(3) goes(0,2,2) finals(4) refine(3)=3 begin() letters(2) refine(3)=2 row()=3,4");

    sentence("REFINED 4: two ITEMS in one CLASS have as many ITEMS of each CLASS in their NEAR; ARRANGED");
    run("items(12) refine(4)=1" + ring(0, 11) + "refine(4)=1 row()=4095 split(1) refine(4)=7 row()=1,2050,1028,520,272,160,64");
    run("split(12) row()=12,3 refine(4)=2 row()=3,12");

    sentence("each within one that was");
    run("items(6) split(32) split(2) row()=32,2,29 refine(4)=3 row()=29,2,32 refine(3)=3 row()=29,2,32"
      + " finals(4) refine(3)=4 row()=25,2,4,32");

    sentence("OF ITSELF: as it would be from one CLASS of all ITEMS");
    run("items(12)" + TWELVE_CLASSES + "told(6)=1 told(7)=12 told(8)=1 told(9)=1 told(10)=1 alike(0,11,0)=1 alike(0,11,1)=0 alike(0,11,2)=1 alike(0,11,3)=1 alike(0,11,4)=1 told(1)=12");
    run("items(1) told(6)=1 told(7)=1 told(8)=1 told(9)=1 told(10)=1 alike(0,0,0)=1 alike(0,0,4)=1");
    run("items(12)" + allEdges(12) + "told(6)=12 told(7)=1 told(10)=1 alike(0,11,0)=0 alike(0,11,1)=1");
    StringBuilder rows = new StringBuilder();
    for (int i = 0; i < 12; i++) rows.append(" columns(").append(i).append(',').append(i * 21).append(")");
    run("items(12)" + rows + " told(8)=12 columns(11,210) told(8)=11 alike(10,11,2)=1");
    run("items(12)" + chain() + "told(9)=1 finals(2048) told(9)=12 alike(0,1,3)=0 finals(3072) told(9)=11 alike(10,11,3)=1");
    run("items(12)" + ring(0, 10) + "edge(10,0,0) edge(11,2,1) told(10)=12 edge(11,2,0) edge(11,10,1) told(10)=6");
  }

  /** Each ITEM goes to the next one by LETTER 0; the last one to itself. */
  private static String chain() {
    StringBuilder text = new StringBuilder(" ");
    for (int i = 0; i < 11; i++) text.append("goes(").append(i).append(",0,").append(i + 1).append(") ");
    return text.toString();
  }

  private static void apart() {
    sentence("APART: 0: one of them is FINAL");
    run("finals(1) apart(0,3)=0 apart(3,0)=0 apart(2,3)=NONE apart(0,0)=NONE finals(9) apart(0,3)=NONE"
      + " finals(15) apart(0,1)=NONE");

    sentence("APART: the least length of a row of LETTERS");
    run("items(12)" + chain() + "finals(2048) apart(0,1)=10 apart(10,9)=1 apart(11,10)=0 apart(0,10)=1 letters(3) goes(0,2,11) apart(0,1)=1 apart(1,2)=9");

    sentence("APART: NONE: there is none");
    run("items(12)" + chain() + "apart(0,11)=NONE finals(4095) apart(0,11)=NONE finals(2048) apart(5,5)=NONE");
    run("items(1) apart(0,0)=NONE finals(1) apart(0,0)=NONE apart(0,1)=UNKNOWN");
  }

  // ---- section 3, promises 2, 8

  private static void searching() {
    sentence("SEARCH: s alone, behind it all others in one (if there are others)");
    run("items(1) search(0,0)=0 search(0,1)=UNKNOWN search(1,0)=UNKNOWN told(11)=NONE told(12)=1");
    run("items(2) found(0)=0,1 found(1)=1,0 search(1,2)=UNKNOWN");
    run("items(12) found(11)=11,0,1,2,3,4,5,6,7,8,9,10 found(0)=0,1,2,3,4,5,6,7,8,9,10,11 search(11,12)=UNKNOWN");

    sentence("SEARCH: the least ITEM of the first CLASS; the CLASSES are SPLIT by its NEAR");
    run("items(12) edge(0,11,1) edge(11,10,1) found(0)=0,11,10,1,2,3,4,5,6,7,8,9 split(512)"
      + " found(0)=0,11,10,1,2,3,4,5,6,7,8,9 row()=512,3583");

    sentence("every ring of four and more has a chord: FAULT the first v (NONE: CHORDAL)");
    run("items(3)" + ring(0, 2) + "told(11)=NONE told(12)=3");
    run("items(4)" + ring(0, 3) + "told(11)=2 told(12)=NONE edge(0,2,1) told(11)=NONE told(12)=3 edge(1,3,1) told(12)=4");
    run("items(12)" + ring(0, 11) + "told(11)=6 told(12)=NONE edge(6,7,0) told(11)=NONE told(12)=2");
    run("items(12)" + ring(8, 11) + "told(11)=10 told(12)=NONE edge(9,11,1) told(11)=NONE told(12)=3");
    run("items(12)" + ring(0, 3) + ring(8, 11) + "told(11)=2 edge(1,3,1) told(11)=10");

    sentence("CLIQUE, if CHORDAL: the most ITEMS each two of which are NEAR one another");
    run("items(12) told(12)=1 edge(10,11,1) told(12)=2 edge(9,10,1) told(12)=2 edge(9,11,1) told(12)=3");
    run("items(12)" + allEdges(12) + "told(11)=NONE told(12)=12 edge(0,11,0) told(12)=11 edge(5,6,0) told(11)=11 told(12)=NONE");
  }

  // ---- section 3: THE BOOK, promises 23, 24

  private static void book() {
    sentence("THE BOOK (20 at most; FULL)");
    Run run = new Run();
    for (int entry = 1; entry <= 20; entry++) run.go("write(3,0)=" + entry);
    run.go("write(3,0)=FULL told(13)=20 told(14)=NONE write(3,1)=FULL told(13)=20 told(14)=NONE tear()=20 told(13)=0 write(3,1)=1 told(14)=0");

    sentence("WRONG: the first that is otherwise now; NONE");
    run("told(14)=NONE 19*write(0,0) told(14)=NONE write(3,1)=20 told(14)=19 split(7) told(14)=NONE arrange()"
      + " told(14)=NONE split(1) told(14)=19");
    run("write(0,0) write(1,1) write(2,2) told(14)=1 split(1) told(14)=2 split(2) told(14)=NONE begin() told(14)=1");

    sentence("THE BOOK tells CLASS k, any");
    run("write(0,LOW)=1 told(14)=0 tear() write(0,HIGH)=1 told(14)=0 tear() write(0,-1)=1 told(14)=0 tear()"
      + " write(0,12)=1 told(14)=0 tear()=1 write(0,0) told(14)=NONE");

    sentence("an ITEM that there is no more: it is, too");
    run("items(12) write(0,0) write(11,0) told(14)=NONE items(11) told(14)=1 items(12) told(14)=NONE items(1)"
      + " told(14)=1 undo(1) told(14)=NONE");
    run("items(12) write(11,-1) items(11) told(14)=0 tear() told(14)=NONE write(11,-1)=UNKNOWN");

    sentence("No BOOK: how much it had");
    run("tear()=0 tear()=0 write(0,5) tear()=1 tear()=0 told(14)=NONE told(15)=0");
  }

  // ---- section 3: BY DRAWS, promises 21, 25

  private static void draws() {
    sentence("THE SEED (0 at first)");
    run("told(16)=0 drift(1)=0 told(16)=654583775");

    sentence("left over by 2 to the 31");
    run("seed(2147483647)=0 drift(1)=0 told(16)=646343466 item(1,0)=134 drift(1) told(16)=595070966"
      + " item(1,4)=0 drift(1) told(16)=526425700 told(5)=0 drift(1) told(16)=146488528 item(1,4)=3");
    run("seed(2147483646)=0 drift(1)=0 told(16)=1318511020 told(5)=6");
    run("seed(1073741824) drift(4) told(16)=1444655021");

    sentence("the DRAW of n is it / 65536, left over by n");
    run("items(12) letters(3) seed(2147483647) drift(3)=0 item(5,0)=134 item(1,6)=8 told(5)=3936 told(16)=526425700");
    run("items(12) letters(3) seed(0) drift(4)=1 item(0,1)=16 item(6,0)=31 item(1,0)=90 item(9,5)=7 told(16)=370913197");

    sentence("if these ITEMS are unlike, an EDGE comes between them, or goes, if there is one");
    run("items(12) seed(9) drift(1)=0 told(16)=728746556 item(7,1)=0");
    run("items(12) seed(177) drift(1)=1 item(0,1)=2048 item(11,1)=1 seed(177) drift(1)=0 item(0,1)=0"
      + " item(11,1)=0 told(16)=2113118468");

    sentence("DRAWS of N, 256: this ITEM has that SET of COLUMNS");
    run("items(12) seed(21893) drift(1) item(11,0)=255 columns(0,255) seed(20535) drift(1) item(0,0)=0");

    sentence("DRAWS of N, L, N: the first ITEM goes by this LETTER to the last one");
    run("items(12) letters(3) seed(1836) drift(1) item(11,6)=0 seed(315) drift(1) item(0,4)=11 told(16)=946042391");

    sentence("a DRAW of 2 to the N: FINAL");
    run("items(12) seed(14261) drift(1) told(5)=4095 seed(8250) drift(1) told(5)=0 told(16)=1073754696");
    run("items(1) seed(3) drift(1) told(5)=1 told(16)=465823161 seed(10) drift(1) told(5)=0 told(16)=1849040536");

    sentence("BY DRAWS, N 1: every DRAW of N is one, too");
    run("items(1) drift(4)=0 item(0,0)=90 item(0,1)=0 item(0,4)=0 told(16)=370913197 letters(3) seed(1)"
      + " drift(1) told(16)=1147902781");

    sentence("n times BY DRAWS (1 .. 12)");
    due("drift(12)", run("items(12) seed(99) drift(12)=6").seen(), run("items(12) seed(99) 12*drift(1)").seen());
    run("seed(9) drift(0)=OUTSIDE drift(13)=OUTSIDE told(16)=9 told(15)=0 drift(12) told(15)=12");

    sentence("THE SEED becomes v (0 .. 2147483647): what it was");
    run("seed(2147483647)=0 seed(0)=2147483647 told(16)=0 seed(-1)=OUTSIDE seed(LOW)=OUTSIDE told(16)=0 told(15)=0");
  }

  // ---- section 3: UNDONE, promise 22

  private static void undone() {
    sentence("16 at most are kept");
    run("15*begin() told(15)=15 undo(16)=NOT begin() told(15)=16 undo(16)=0 undo(1)=NOT");
    Run run = new Run();
    for (int set = 1; set <= 40; set++) run.go("columns(0," + set + ")=" + (set - 1) + " told(15)=" + Math.min(set, 16));
    run.go("undo(17)=OUTSIDE undo(16)=0 item(0,0)=24 undo(1)=NOT told(15)=0");
    Run one = new Run();
    for (int set = 1; set <= 40; set++) one.go("columns(0," + set + ")");
    for (int left = 15; left >= 0; left--) one.go("undo(1)=" + left + " item(0,0)=" + (left + 24));
    one.go("undo(1)=NOT columns(0,7)=24 told(15)=1 undo(1)=0 item(0,0)=24");

    sentence("undo(n) (1 .. 16): how many more can be");
    run("16*split(1) undo(0)=OUTSIDE undo(17)=OUTSIDE undo(1)=15 undo(15)=0");
    run("16*split(1) undo(16)=0 row()=15 told(2)=0");

    sentence("NOT: not so many");
    run("undo(1)=NOT undo(16)=NOT split(1) undo(2)=NOT row()=1,14 undo(1)=0 undo(1)=NOT");

    sentence("UNDONE: all that were not refused, be it that they changed nothing");
    for (String idle : List.of("items(4)=4", "edge(0,1,0)=0", "columns(0,0)=0", "letters(1)=1", "goes(0,0,0)=0", "finals(0)=0",
        "begin()=1", "split(0)=1", "by(4,0,0)=1", "refine(0)=1", "refine(4)=1", "arrange()=0", "drift(1)=0"))
      run(idle + " told(15)=1 undo(1)=0 undo(1)=NOT");
    for (String refused : List.of("items(0)=OUTSIDE", "edge(0,0,0)=UNKNOWN", "columns(0,256)=OUTSIDE", "letters(0)=OUTSIDE",
        "goes(0,1,0)=UNKNOWN", "finals(16)=UNKNOWN", "split(16)=UNKNOWN", "by(6,0,0)=OUTSIDE", "refine(5)=OUTSIDE",
        "join(0)=UNKNOWN", "drift(0)=OUTSIDE", "drift(13)=OUTSIDE", "undo(1)=NOT"))
      run(refused + " told(15)=0 undo(1)=NOT");
    for (String noDeed : List.of("told(0)", "item(0,0)", "classAt(0)", "setBy(0,0,0)", "alike(0,1,0)", "apart(0,1)", "search(0,0)",
        "write(0,0)", "tear()", "seed(1)"))
      run(noDeed + " told(15)=0 undo(1)=NOT");

    sentence("UNDONE: each time BY DRAWS");
    run("items(12) seed(99) drift(1) told(15)=2 drift(12) told(15)=14 drift(12) told(15)=16 undo(16)=0 undo(1)=NOT");
    for (int n = 1; n <= 12; n++)
      due("drift(12) undo(" + n + ")", bare(run("items(12) seed(99) drift(12) undo(" + n + ")")),
        bare(run("items(12) seed(99)" + (n < 12 ? " drift(" + (12 - n) + ")" : ""))));
    eachDeed();
  }

  /** What is so but for THE SEED, which undo() leaves. */
  private static String bare(Run run) { return run.go("seed(0)").seen(); }

  private static void eachDeed() {
    String some = "items(5) letters(3) edge(0,1,1) edge(3,4,1) columns(2,9) goes(0,2,3) finals(20) split(16) split(4)";
    sentence("UNDONE: all of section 1 is as ahead of them");
    String ahead = run(some).seen();
    for (String deed : List.of("items(12)", "items(1)", "items(5)", "edge(0,1,0)", "edge(0,2,1)", "columns(2,255)", "letters(1)", "goes(0,2,4)",
        "finals(31)", "begin()", "split(1)", "by(1,0,0)", "refine(0)", "refine(3)", "refine(4)", "join(0)", "arrange()"))
      due(deed + " undo(1)", run(some + " " + deed + " undo(1)=9").seen(), ahead);
    due("many", run(some + " letters(1) items(12) letters(2) goes(11,1,0) split(2048) join(0) undo(6)=9").seen(), ahead);

    sentence("UNDONE: THE SEED, THE BOOK stay");
    run("write(0,0) split(1) seed(5) write(1,1) drift(1) undo(2)=0 told(13)=2 told(14)=1 row()=15 told(16)=554244747");
    run("20*write(0,0) begin() tear()=20 undo(1)=0 told(13)=0 begin() 20*write(3,0) undo(1)=0 told(13)=20 write(0,0)=FULL");
  }

  // ---- section 3: IMAGES, promises 26, 27

  private static void images() {
    sentence("nothing can be undone then: keep()");
    run("16*begin() keep(0)=1 told(15)=0 undo(1)=NOT begin() told(15)=1 keep(1)=1 told(15)=0 undo(1)=NOT");
    run("10*split(1) keep(0) 16*columns(0,5) told(15)=16 undo(16)=0 item(0,0)=0 row()=1,14 undo(1)=NOT");

    sentence("nothing can be undone then: goBack()");
    run("keep(0) 16*begin() goBack(0)=1 told(15)=0 undo(1)=NOT split(1) told(15)=1 undo(1)=0 row()=15");
    run("keep(1) 9*split(1) goBack(1) row()=15 17*columns(0,5) undo(16)=0 item(0,0)=5");

    sentence("NOT: it was not kept");
    run("goBack(0)=NOT goBack(1)=NOT keep(1) goBack(0)=NOT goBack(1)=1 goBack(0)=NOT keep(0) goBack(0)=1");
    run("keep(0) goBack(1)=NOT goBack(0)=1 goBack(1)=NOT");

    sentence("IMAGES 0, 1");
    run("keep(0)=1 split(1) keep(1)=1 split(2) goBack(0)=1 row()=15 goBack(1)=1 row()=1,14 goBack(1)=1"
      + " row()=1,14 goBack(0)=1 row()=15");
    run("keep(0) split(1) keep(0) begin() goBack(0) row()=1,14 keep(1) split(2) row()=1,2,12 goBack(1) row()=1,14");
    run("keep(2)=UNKNOWN keep(-1)=UNKNOWN goBack(2)=UNKNOWN goBack(-1)=UNKNOWN goBack(0)=NOT goBack(1)=NOT");

    sentence("IMAGES keep all of section 1, THE SEED");
    String some = "items(12) letters(3) edge(0,11,1) columns(11,255) goes(11,2,0) finals(2049) split(2048) split(1) seed(2147483647) keep(1)";
    String kept = run(some).seen();
    for (String since : List.of("items(1)", "letters(1)", "edge(0,11,0)", "columns(11,0)", "goes(11,2,5)", "finals(0)", "begin()",
        "split(2)", "join(0)", "arrange()", "seed(0)", "drift(12)", "items(1) split(1) keep(0) seed(4)"))
      due(since + " goBack(1)", run(some + " " + since + " goBack(1)=1").seen(), kept);
    run(some + " 2*goBack(1)=1 told(2)=2 told(16)=2147483647 row()=2048,1,2046");

    sentence("IMAGES: THE BOOK is not of them");
    run("write(0,0) keep(0) write(1,1) write(2,2) goBack(0) told(13)=3 told(14)=1 tear() goBack(0) told(13)=0");
    run("items(12) write(11,0) keep(0) items(2) told(14)=0 goBack(0) told(14)=NONE");
  }

  // ---- promises 9 to 20: what deeds answer at their bounds

  private static void deeds() {
    sentence("N: no COLUMNS, no EDGES, L 1, all go to themselves, FINAL 0, one CLASS, WORK 0: what N was");
    String some = "items(12) letters(3) edge(0,11,1) columns(11,255) goes(0,0,11) goes(11,2,0) finals(4095) split(1)";
    for (int n = 1; n <= 12; n++)
      due("items(" + n + ")", run(some + " items(" + n + ")=12 keep(0)").seen(), run("items(" + n + ")=4 keep(0)").seen());
    run(some + " items(12)=12 letters(3)=1 item(11,6)=11 item(0,4)=0 items(1)=12 items(12)=1 item(11,0)=0 item(11,1)=0");
    run(some + " items(1) items(12) item(0,1)=0 item(0,4)=0 told(3)=0 row()=4095");

    sentence("An EDGE comes (is 1), goes (0): EDGES");
    run("edge(3,0,0)=0 edge(3,0,1)=1 edge(0,3,1)=1 item(3,1)=1 edge(0,3,0)=0 edge(3,0,0)=0 item(0,1)=0");

    sentence("An ITEM has a SET of COLUMNS (0 .. 255): what it had");
    run("columns(3,255)=0 columns(3,0)=255 columns(3,256)=OUTSIDE columns(3,-1)=OUTSIDE columns(3,128)=0 item(3,0)=128");

    sentence("of new LETTERS all go to themselves");
    run("letters(3)=1 goes(3,2,0) goes(3,1,0) goes(3,0,0) letters(2)=3 letters(3)=2 item(3,6)=3 item(3,5)=0"
      + " letters(1)=3 letters(2)=1 item(3,5)=3 item(3,4)=0 letters(3)=2 item(3,6)=3");
    run("letters(3) goes(3,2,0) letters(3)=3 item(3,6)=0 letters(1)=3 letters(1)=1 goes(0,1,0)=UNKNOWN undo(2) item(3,6)=0");

    sentence("ITEM i goes by a LETTER to ITEM j: to which it went");
    run("items(12) letters(3) goes(11,2,0)=11 goes(11,2,11)=0 goes(11,3,0)=UNKNOWN goes(12,2,0)=UNKNOWN"
      + " goes(11,2,12)=UNKNOWN item(11,6)=11");

    sentence("FINAL: what it was");
    run("items(12) finals(4095)=0 finals(4096)=UNKNOWN finals(0)=4095 finals(2048)=0 told(5)=2048");

    sentence("All ITEMS are in one CLASS, WORK is 0: CLASSES that there were");
    run("begin()=1 items(12) begin()=1" + TWELVE_CLASSES + "begin()=12 row()=4095 told(2)=0 items(1) begin()=1");

    sentence("CLASS k and the next one become one: CLASSES. UNKNOWN (either)");
    run("join(0)=UNKNOWN split(1) join(1)=UNKNOWN join(2)=UNKNOWN join(-1)=UNKNOWN join(HIGH)=UNKNOWN"
      + " join(0)=1 row()=15 join(0)=UNKNOWN");
    run("items(12)" + TWELVE_CLASSES + "join(11)=UNKNOWN join(10)=11 row()=2,4,1,16,32,8,128,256,64,1024,2560 join(10)=UNKNOWN join(0)=10 row()=6,1,16,32,8,128,256,64,1024,2560");

    sentence("ARRANGED: how many CLASSES have another number then");
    StringBuilder turned = new StringBuilder("items(12)");
    for (int i = 11; i >= 0; i--) turned.append(" split(").append(1 << i).append(")");
    run(turned + " arrange()=12 arrange()=0 row()=1,2,4,8,16,32,64,128,256,512,1024,2048");
    run("arrange()=0 split(8) arrange()=2 arrange()=0 split(4) row()=4,3,8 arrange()=2 row()=3,4,8 items(1) arrange()=0");
  }

  public static void main(String[] args) {
    boundsInSomeObjects();
    terms();
    atFirst();
    splitting();
    setsByKind();
    refined();
    apart();
    searching();
    book();
    draws();
    undone();
    images();
    deeds();
    System.out.println(wrong == 0 ? "all answers are as due, of " + SENTENCES.size() + " sentences" : wrong + " answers are not as due");
    if (wrong != 0) System.exit(1);
  }
}
