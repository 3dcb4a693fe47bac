import java.lang.reflect.Method;
import java.util.ArrayList;
import java.util.Arrays;
import java.util.List;
import java.util.Random;

/** Runs of calls by a fixed seed, on the program and on the model: each answer has to be the same. */
public final class ModelTests {
  private static final String[] NAMES = {"type", "wipe", "undo", "fault", "set", "height", "lean", "stone", "behind",
      "turn", "first", "highest", "mend", "open", "sides", "seen", "forget", "read", "who", "frost", "years", "sheet",
      "lose", "lay", "get", "copy", "write", "count", "digest"};
  private static final int[] HARD = {Integer.MIN_VALUE, Integer.MAX_VALUE, -1, -2, 0, 255, 256, -129, 40000, 65536};

  /** An object is used for so many calls; what later ones answer is free. The last one is kept for digest(). */
  private static final int MOST_CALLS = 512;

  private final Random random;
  private final boolean full;
  private final String[] filled = new String[2];
  private final WallTurns program = new WallTurns();
  private final Model model = new Model();
  private final List<String> told = new ArrayList<>();
  private int calls = 0;
  private int wrong = 0;

  private ModelTests(long seed) {
    random = new Random(seed);
    full = seed % 3 == 0;
  }

  public static void main(String[] args) throws Exception {
    int runs = args.length > 0 ? Integer.parseInt(args[0]) : 24;
    long from = args.length > 1 ? Long.parseLong(args[1]) : 1;
    int wrong = 0;
    for (long seed = from; seed < from + runs; seed++) {
      ModelTests one = new ModelTests(seed);
      one.run(seed);
      wrong += one.wrong;
    }
    System.out.println(wrong == 0 ? "the program and the model agree" : wrong + " runs do not agree");
    if (wrong != 0) System.exit(1);
  }

  /** A run up to the last call that is promised; in every third one all is full from the start on. */
  private void run(long seed) throws Exception {
    if (full) fillAll(); else writeTexts();
    while (calls < MOST_CALLS - 1 && wrong == 0) {
      int kind = random.nextInt(100);
      if (!full && (kind < 3 || model.count(0) == 0 && kind < 60)) writeTexts();
      else if (kind < 8) makeRules();
      else if (kind < 14) seeWhatIs();
      else if (kind < 20) fillSheet();
      else if (kind < 24 && full) typeAtTheEnd();
      else if (kind < 22) typeOneMore();
      else any();
    }
    make("digest");
    if (wrong != 0) System.out.println("seed " + seed + ": " + String.join(" ", told));
    else if (calls != MOST_CALLS) throw new IllegalStateException("a run of " + calls + " calls");
  }

  /** Both texts to the last byte or near it, all SEEN, all four SHEETS with sixty items. */
  private void fillAll() throws Exception {
    filled[0] = fullWall().substring(0, 62 + random.nextInt(2));
    filled[1] = fullTurns().substring(0, random.nextInt(3) == 0 ? 57 : 59);
    for (int text = 0; text < 2; text++) for (char c : filled[text].toCharArray()) call("type", text, (int) c);
    for (int s = 0; s < 4; s++) call("sheet", s, s == 3 ? random.nextInt(3) : s, 60);
    for (int i = 0; i < 8; i++) {
      int t = random.nextInt(13);
      int c = random.nextInt(8);
      call("seen", t, c, random.nextInt(4) == 0 ? random.nextInt(17) : Math.max(0, model.height(t, c)));
    }
  }

  /** A byte too many, or one undone and typed once more: behind it the text is as it was. */
  private void typeAtTheEnd() throws Exception {
    int text = random.nextInt(2);
    int last = filled[text].length() - 1;
    call("type", text, anyByte());
    for (int many = model.count(2 + text); many > last; many--) call("undo", text);
    call("fault", text);
    call("type", text, (int) filled[text].charAt(last));
    call("fault", text);
  }

  /** Seven columns of seven or eight stones, and one that has what is left. */
  private String fullWall() {
    String of = new String[] {"nsNS", "ns", "nnSs", "NS"}[random.nextInt(4)];
    int[] sizes = new int[8];
    for (int left = 56; left > 0; ) {
      int c = random.nextInt(8);
      if (sizes[c] < 8) { sizes[c]++; left--; }
    }
    StringBuilder all = new StringBuilder();
    for (int c = 0; c < 8; c++) {
      if (c > 0) all.append(';');
      for (int k = 0; k < sizes[c]; k++) all.append(of.charAt(random.nextInt(of.length())));
    }
    return all.toString();
  }

  /** Twelve turns of four bytes each: one that takes and lays, or one that lays two, as the last one does. */
  private String fullTurns() {
    StringBuilder all = new StringBuilder();
    for (int t = 0; t < 12; t++) {
      if (t > 0) all.append(';');
      String own = random.nextInt(6) == 0 ? "nsNS" : t % 2 == 0 ? "nN" : "sS";
      String laid = "" + own.charAt(random.nextInt(own.length())) + random.nextInt(8);
      boolean takes = t < 11 && random.nextInt(4) > 0;
      all.append(takes ? "-" + random.nextInt(8) : "" + own.charAt(0) + random.nextInt(8)).append(laid);
    }
    return all.toString();
  }

  private void any() throws Exception {
    String name = NAMES[random.nextInt(NAMES.length)];
    if (List.of("type", "wipe", "undo").contains(name) && (full || random.nextInt(8) != 0)) return;
    int many = methodOf(WallTurns.class, name).getParameterCount();
    int[] with = new int[many];
    for (int k = 0; k < many; k++) with[k] = number(name, k);
    call(name, with);
  }

  /** The least and the most that each number of a call may be; what hangs on the texts is asked of the model. */
  private int[] bounds(String name, int k) {
    int turns = model.count(1);
    int columns = Math.max(0, model.count(0) - 1);
    switch (name + k) {
      case "type1": return new int[] {0, 255};
      case "set0": return new int[] {0, 5};
      case "height0": case "lean0": case "stone0": case "behind0": case "write0": return new int[] {0, turns};
      case "height1": case "lean1": case "stone1": return new int[] {0, columns};
      case "stone2": return new int[] {-1, 7};
      case "turn0": return new int[] {0, Math.max(0, turns - 1)};
      case "first0": case "sides1": case "frost1": case "type0": case "wipe0": case "undo0": case "fault0":
        return new int[] {0, 1};
      case "mend0": case "open1": return new int[] {-1, 2};
      case "open0": case "count0": return new int[] {0, 8};
      case "sides0": return new int[] {1, 3};
      case "seen0": return new int[] {0, 12};
      case "seen1": return new int[] {0, 7};
      case "seen2": case "frost0": return new int[] {0, 16};
      case "years0": return new int[] {Integer.MIN_VALUE, Integer.MAX_VALUE};
      case "years1": return new int[] {1, 40};
      case "years2": return new int[] {-1, columns};
      case "sheet2": return new int[] {0, random.nextInt(3) == 0 ? 60 : 9};
      case "lay3": return random.nextInt(3) == 0 ? new int[] {Integer.MIN_VALUE, Integer.MAX_VALUE} : new int[] {0, 12};
      case "lay2": case "get2": case "copy1": case "copy3": case "copy4": return new int[] {0, 9};
      case "turn1": case "who0": case "sheet1": case "lay1": case "get1": return new int[] {0, 2};
      default: return new int[] {0, 3};
    }
  }

  private int number(String name, int k) {
    if (random.nextInt(60) == 0) return HARD[random.nextInt(HARD.length)];
    int[] bounds = bounds(name, k);
    int off = random.nextInt(30);
    if (off < 2) return off == 0 ? bounds[0] - 1 : bounds[1] + 1;
    return (int) (bounds[0] + (long) (random.nextDouble() * ((long) bounds[1] - bounds[0] + 1)));
  }

  private int anyByte() {
    return random.nextInt(12) == 0 ? random.nextInt(256) : "nsNS;-01234567".charAt(random.nextInt(14));
  }

  /** A byte that the text may well go on with, and perhaps away with it. */
  private void typeOneMore() throws Exception {
    int text = random.nextInt(2);
    call("type", text, anyByte());
    call("fault", text);
    if (random.nextInt(3) > 0) call("undo", text);
  }

  private void makeRules() throws Exception {
    int what = random.nextInt(6);
    int[] most = {1, 16, 3, 16, 16, 255};
    call("set", what, random.nextInt(8) == 0 ? random.nextInt(257) - 1 : random.nextInt(most[what] + 1));
  }

  private void writeTexts() throws Exception {
    for (int text = 0; text < 2; text++) {
      if (calls > 0 && random.nextInt(2) == 0 && model.fault(text) == -1) continue;
      call("wipe", text);
      String all = text == 0 ? someWall() : someTurns();
      for (int i = 0; i < all.length() && i < 64; i++) call("type", text, (int) all.charAt(i));
    }
  }

  private String someWall() {
    StringBuilder all = new StringBuilder();
    int columns = random.nextInt(20) == 0 ? 9 : 1 + random.nextInt(8);
    String of = new String[] {"nsNS", "ns", "nsn", "NS"}[random.nextInt(4)];
    int most = random.nextInt(12) == 0 ? 9 : 1 + random.nextInt(8);
    for (int c = 0; c < columns; c++) {
      if (c > 0) all.append(';');
      for (int k = random.nextInt(most + 1); k > 0; k--) all.append(of.charAt(random.nextInt(of.length())));
    }
    return all.toString();
  }

  private String someTurns() {
    StringBuilder all = new StringBuilder();
    int turns = random.nextInt(14);
    int figures = 1 + random.nextInt(8);
    boolean fair = random.nextInt(3) > 0;
    for (int t = 0; t < turns; t++) {
      if (t > 0) all.append(';');
      if (random.nextInt(2) == 0) all.append('-').append(random.nextInt(figures));
      for (int k = turns > 8 ? random.nextInt(6) / 5 : random.nextInt(3); k >= 0; k--) {
        String own = t % 2 == 0 ? "nN" : "sS";
        all.append((fair ? own : "nsNS").charAt(random.nextInt(fair ? 2 : 4))).append(random.nextInt(figures));
      }
    }
    return all.length() > 59 ? all.substring(0, all.lastIndexOf(";", 59)) : all.toString();
  }

  /** Sights that could be so: of the wall as it is, perhaps off by one. */
  private void seeWhatIs() throws Exception {
    int columns = model.count(0);
    if (columns == 0) return;
    if (random.nextInt(2) == 0) call("forget");
    int turns = random.nextInt(model.count(1) + 1);
    int column = random.nextInt(columns);
    int off = random.nextInt(3) - 1;
    call("seen", turns, column, Math.max(0, Math.min(16, model.height(turns, column) + off)));
    for (int what = 0; what < 3; what++) call("who", what);
  }

  private void fillSheet() throws Exception {
    int s = random.nextInt(4);
    int form = random.nextInt(3);
    int n = random.nextInt(10);
    call("sheet", s, form, n);
    for (int i = 0; i < n && i < 6; i++) call("lay", s, form, i, random.nextInt(8));
    int then = random.nextInt(4);
    if (then == 0) call("read", s);
    if (then == 1) call("write", random.nextInt(model.count(1) + 1), s);
    if (then == 2) for (int i = 0; i <= n && i < 6; i++) call("get", s, form, i);
  }

  private void call(String name, int... given) throws Exception {
    if (calls < MOST_CALLS - 1) make(name, given);
  }

  private void make(String name, int... given) throws Exception {
    calls++;
    Method of = methodOf(WallTurns.class, name);
    Object[] with = new Object[of.getParameterCount()];
    for (int k = 0; k < with.length; k++) with[k] = given[k];
    Object got = of.invoke(program, with);
    Object due = methodOf(Model.class, name).invoke(model, with);
    told.add(name + Arrays.toString(with) + "=" + got);
    if (wrong == 0 && !got.equals(due)) {
      wrong = 1;
      told.add("<- due is " + due);
    }
  }

  private static Method methodOf(Class<?> kind, String name) {
    for (Method m : kind.getMethods()) if (m.getName().equals(name)) return m;
    throw new IllegalStateException("no method " + name);
  }
}
