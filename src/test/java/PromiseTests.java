/** Each promise of the document by hand: ordinary answers, the edges, and each refusal in the order told. */
public final class PromiseTests {
  private static final int NULL = -11, INDEX = -12, CAST = -13, STORE = -14, SIZE = -15;
  private static final int BEGINS = 0, BOND = 1, PUSH = 2, BEARS = 3, LOW = 4, PEARS = 5;
  private static final int[] OUTSIDE = {-1, 2, Integer.MIN_VALUE, Integer.MAX_VALUE};

  private static int wrong = 0;
  private static String promise = "";

  private static void due(String what, long got, long want) {
    if (got != want) {
      wrong++;
      System.out.println(promise + ": " + what + " answered " + got + ", due is " + want);
    }
  }

  /** A row of answers, told as a text. */
  private static void dueRow(String what, String want, long... got) {
    StringBuilder all = new StringBuilder();
    for (long v : got) all.append(all.length() == 0 ? "" : " ").append(v);
    if (!all.toString().equals(want)) {
      wrong++;
      System.out.println(promise + ": " + what + " answered " + all + ", due is " + want);
    }
  }

  private static void write(WallTurns x, int text, String all) {
    x.wipe(text);
    for (int i = 0; i < all.length(); i++) x.type(text, all.charAt(i));
  }

  private static WallTurns made(String wall, String turns) {
    WallTurns x = new WallTurns();
    write(x, 0, wall);
    write(x, 1, turns);
    return x;
  }

  private static String repeat(String of, int times) { return of.repeat(times); }

  public static void main(String[] args) {
    newObject();
    type();
    wipe();
    undo();
    faultOfWall();
    faultOfTurns();
    set();
    height();
    turnsDoNothing();
    lean();
    stone();
    behind();
    weak();
    turn();
    first();
    highest();
    mend();
    open();
    sides();
    seen();
    forget();
    read();
    who();
    frost();
    years();
    sheet();
    lose();
    lay();
    get();
    copy();
    writeHeights();
    count();
    digest();
    System.out.println(wrong == 0 ? "the promises hold" : wrong + " answers are not as due");
    if (wrong != 0) System.exit(1);
  }

  private static void newObject() {
    promise = "1 a new object";
    WallTurns x = new WallTurns();
    for (int what = 0; what <= 8; what++) due("count(" + what + ")", x.count(what), 0);
    for (int text = 0; text < 2; text++) due("fault(" + text + ")", x.fault(text), -1);
    for (int s = 0; s < 4; s++) due("lose(" + s + ")", x.lose(s), NULL);
    dueRow("what is set at first", "0 3 0 6 4 255", x.set(BEGINS, 0), x.set(BOND, 3), x.set(PUSH, 0), x.set(BEARS, 6),
        x.set(LOW, 4), x.set(PEARS, 255));
    dueRow("who begins has nothing to begin", "0 1 0 0", x.set(BEGINS, 1), x.set(BEGINS, 0), x.count(1), x.count(6));
    due("highest", x.highest(), -1);
    WallTurns one = made("n", "n0");
    due("another object knows nothing of it", new WallTurns().count(0), 0);
    due("and it goes on", one.count(0), 1);
  }

  private static void type() {
    promise = "2 type";
    WallTurns x = new WallTurns();
    for (int i = 1; i <= 63; i++) due("byte " + i + " of the wall", x.type(0, 255), i);
    due("a 64th byte", x.type(0, 0), -4);
    due("BAD ahead of FULL", x.type(0, 256), -2);
    due("FULL changed nothing", x.count(2), 63);
    for (int i = 1; i <= 59; i++) due("byte " + i + " of the turns", x.type(1, 0), i);
    due("a 60th byte", x.type(1, 0), -4);
    due("FULL changed nothing", x.count(3), 59);
    WallTurns y = new WallTurns();
    for (int text : OUTSIDE) due("text " + text, y.type(text, 0), -2);
    for (int b : new int[] {-1, 256, Integer.MIN_VALUE, Integer.MAX_VALUE}) due("byte " + b, y.type(0, b), -2);
    due("BAD changed nothing", y.count(2) + y.count(3), 0);
  }

  private static void wipe() {
    promise = "3 wipe";
    WallTurns x = made("ns;N", "n0");
    due("the wall", x.wipe(0), 4);
    dueRow("only that text is empty", "0 2", x.count(2), x.count(3));
    due("no columns are left", x.count(0), 0);
    due("once more", x.wipe(0), 0);
    due("the turns", x.wipe(1), 2);
    due("no turns are left", x.count(1), 0);
    for (int text : OUTSIDE) due("text " + text, x.wipe(text), -2);
  }

  private static void undo() {
    promise = "4 undo";
    WallTurns x = made("nS", "n0;");
    dueRow("the wall, byte by byte", "1 0 -3", x.undo(0), x.undo(0), x.undo(0));
    due("a turn begun is undone", x.undo(1), 2);
    dueRow("and the turns are well", "-1 1", x.fault(1), x.count(1));
    for (int text : OUTSIDE) due("text " + text, x.undo(text), -2);
    WallTurns y = made("ns", "");
    y.undo(0);
    dueRow("the wall is as if it was never typed", "1 1 1", y.height(0, 0), y.stone(0, 0, -1), y.lean(0, 0));
  }

  private static void fault(int text, String all, int want) {
    WallTurns x = new WallTurns();
    write(x, text, all);
    due("fault of " + (text == 0 ? "wall " : "turns ") + all, x.fault(text), want);
    if (want != -1) due("with it " + all + " is as if it was empty", x.count(text), 0);
  }

  private static void faultOfWall() {
    promise = "5 fault";
    fault(0, "", -1);
    fault(0, ";", -1);
    fault(0, "nsNS;;n", -1);
    fault(0, ";;;;;;;", -1);
    fault(0, ";;;;;;;;", 7);
    fault(0, "nnnnnnnn;SSSSSSSS", -1);
    fault(0, "nnnnnnnnn", 8);
    fault(0, "n;SSSSSSSSS", 10);
    fault(0, "nsx", 2);
    fault(0, "n0", 1);
    fault(0, "-", 0);
    fault(0, "M", 0);
    fault(0, "n n", 1);
    fault(0, "n" + (char) 238, 1);
    for (int text : OUTSIDE) due("text " + text, new WallTurns().fault(text), -2);
    WallTurns x = made("n;S", "n1");
    x.type(0, 'x');
    dueRow("the turns stay with the wall away", "3 -1 0 1", x.fault(0), x.fault(1), x.count(0), x.count(1));
    x.undo(0);
    dueRow("and it is back", "-1 2 2", x.fault(0), x.count(0), x.height(0, 1));
  }

  private static void faultOfTurns() {
    fault(1, "", -1);
    fault(1, "n0", -1);
    fault(1, "-7S7", -1);
    fault(1, "n0s1N2;-3S4", -1);
    fault(1, "-", 1);
    fault(1, "-8", 1);
    fault(1, "-n", 1);
    fault(1, "-1", 2);
    fault(1, "-1;", 2);
    fault(1, "-1-", 2);
    fault(1, "-1n", 3);
    fault(1, "-1nn", 3);
    fault(1, "n", 1);
    fault(1, "n8", 1);
    fault(1, "n/", 1);
    fault(1, "5", 0);
    fault(1, ";", 0);
    fault(1, "n0;", 3);
    fault(1, "n0;;", 3);
    fault(1, "n0-1", 2);
    fault(1, "n0n1s2S3", 6);
    fault(1, "n0n1s2;n", 8);
    fault(1, repeat("n0;", 11) + "n0", -1);
    fault(1, repeat("n0;", 12), 36);
    fault(1, repeat("n0;", 12) + "n", 36);
    fault(1, repeat("n0;", 12) + "-", 36);
    fault(1, repeat("n0;", 12) + "x", 36);
    WallTurns x = made("n", "n0;");
    dueRow("turns that are not ended do nothing", "0 1", x.count(1), x.height(0, 0));
  }

  private static void set() {
    promise = "6 set";
    int[] first = {0, 3, 0, 6, 4, 255};
    int[] most = {1, 16, 9, 16, 16, 255};
    WallTurns x = new WallTurns();
    for (int what = 0; what < 6; what++) {
      due("what it was: " + what, x.set(what, most[what]), first[what]);
      due("above: " + what, x.set(what, most[what] + 1), -2);
      due("below: " + what, x.set(what, -1), -2);
      due("far off: " + what, x.set(what, Integer.MIN_VALUE), -2);
      due("a refusal changed nothing: " + what, x.set(what, 0), most[what]);
      due("the least: " + what, x.set(what, first[what]), 0);
    }
    for (int what : new int[] {-1, 6, Integer.MIN_VALUE, Integer.MAX_VALUE}) due("what " + what, x.set(what, 0), -2);
  }

  private static void height() {
    promise = "7 height";
    WallTurns x = made("nsN;;S", "-2n1;-0s0S1");
    dueRow("behind none", "4 0 2", x.height(0, 0), x.height(0, 1), x.height(0, 2));
    dueRow("behind one", "4 1 0", x.height(1, 0), x.height(1, 1), x.height(1, 2));
    dueRow("behind both", "3 3 0", x.height(2, 0), x.height(2, 1), x.height(2, 2));
    for (int v : new int[] {-1, 3, Integer.MIN_VALUE, Integer.MAX_VALUE}) {
      due("behind " + v, x.height(v, 0), -2);
      due("column " + v, x.height(0, v), -2);
    }
    WallTurns all = made("", repeat("n0;", 11) + "s0");
    all.type(0, ';');
    dueRow("behind twelve", "6 6 7 -2", all.height(11, 0), all.height(12, 0) - 1, all.height(12, 0), all.height(13, 0));
    due("no wall", new WallTurns().height(0, 0), -2);
    due("as high as can be", made("NSNSNSNS", "").height(0, 0), 16);
    x.set(BEGINS, 1);
    dueRow("who begins decides", "4 0 2", x.height(1, 0), x.height(1, 1), x.height(1, 2));
  }

  private static void turnsDoNothing() {
    promise = "1 turns, as they do nothing";
    dueRow("own one not taken", "0 0", did("n", "-0s0", 0));
    dueRow("the other's not laid", "0 0", did("s", "s0S0", 0));
    dueRow("part of a turn", "1 1", did("s", "-0n0s0", 0));
    dueRow("no such column", "0 0", did("s", "-1n1", 0));
    dueRow("nothing there to take", "0 1", did(";s", "-0n0", 0));
    dueRow("no room", "0 1", did("nnnnnnn", "n0n0n0", 0));
    dueRow("first taken, then laid", "1 1", did("nnnnnnns", "-0n0n0", 0));
    dueRow("three laid", "0 3", did("n;", "N1n0N1", 0));
    dueRow("the south begins", "1 1", did("n", "-0s0n0", 1));
    WallTurns x = made("", "n0");
    dueRow("no wall, but turns", "0 1 0 0", x.count(0), x.count(1), x.turn(0, 2), x.behind(1, 2));
    WallTurns y = made("s", "-0n0;-0s0;-0n0");
    dueRow("by turns", "1 1 1 1 1 1", y.turn(0, 1), y.turn(0, 2), y.turn(1, 1), y.turn(1, 2), y.turn(2, 1), y.turn(2, 2));
  }

  private static long[] did(String wall, String turns, int begins) {
    WallTurns x = made(wall, turns);
    x.set(BEGINS, begins);
    return new long[] {x.turn(0, 1), x.turn(0, 2)};
  }

  private static void lean() {
    promise = "8 lean";
    WallTurns x = made("nsN;;S", "-2n1;-0s0S1");
    dueRow("behind none", "2 0 -2", x.lean(0, 0), x.lean(0, 1), x.lean(0, 2));
    dueRow("behind both", "-1 -1 0", x.lean(2, 0), x.lean(2, 1), x.lean(2, 2));
    for (int v : new int[] {-1, 3, Integer.MIN_VALUE, Integer.MAX_VALUE}) {
      due("behind " + v, x.lean(v, 0), -1002);
      due("column " + v, x.lean(0, v), -1002);
    }
    due("no wall", new WallTurns().lean(0, 0), -1002);
    dueRow("as far as can be", "16 -16", made("NNNNNNNN", "").lean(0, 0), made("SSSSSSSS", "").lean(0, 0));
  }

  private static void stone() {
    promise = "9 stone";
    WallTurns x = made("nsNSnsNS;", "n1");
    due("how many", x.stone(0, 0, -1), 8);
    for (int i = 0; i < 8; i++) due("stone " + i, x.stone(0, 0, i), i % 4);
    dueRow("none there", "0 -1 -1", x.stone(0, 1, -1), x.stone(0, 1, 0), x.stone(0, 1, 7));
    dueRow("behind a turn", "1 0 -1", x.stone(1, 1, -1), x.stone(1, 1, 0), x.stone(1, 1, 1));
    for (int v : new int[] {-2, 8, Integer.MIN_VALUE, Integer.MAX_VALUE}) {
      due("behind " + v, x.stone(v, 0, 0), -2);
      due("column " + v, x.stone(0, v, 0), -2);
      due("i " + v, x.stone(0, 0, v), -2);
    }
    dueRow("just outside", "-2 -2 -2 -2", x.stone(-1, 0, 0), x.stone(2, 0, 0), x.stone(0, -1, 0), x.stone(0, 2, 0));
  }

  private static void behind() {
    promise = "10 behind";
    WallTurns x = made("nsN;;S", "-2n1;-0s0S1");
    dueRow("none", "1 3 3 3", x.behind(0, 0), x.behind(0, 1), x.behind(0, 2), x.behind(0, 3));
    dueRow("one", "0 3 4 1", x.behind(1, 0), x.behind(1, 1), x.behind(1, 2), x.behind(1, 3));
    dueRow("both", "0 3 2 4", x.behind(2, 0), x.behind(2, 1), x.behind(2, 2), x.behind(2, 3));
    x.set(LOW, 3);
    due("the first is in shade", x.behind(0, 1), 2);
    x.set(LOW, 0);
    due("the empty one alone", x.behind(0, 1), 1);
    x.set(LOW, 16);
    x.set(PEARS, 0xFA);
    due("pears where there is no column do not count", x.behind(0, 1), 1);
    for (int v : new int[] {-1, 3, Integer.MIN_VALUE, Integer.MAX_VALUE}) due("behind " + v, x.behind(v, 0), -2);
    for (int v : new int[] {-1, 4, Integer.MIN_VALUE, Integer.MAX_VALUE}) due("what " + v, x.behind(0, v), -2);
    WallTurns none = new WallTurns();
    dueRow("no wall", "0 0 0 0", none.behind(0, 0), none.behind(0, 1), none.behind(0, 2), none.behind(0, 3));
  }

  private static int weakOf(String wall, int bond, int push, int bears) {
    WallTurns x = made(wall, "");
    x.set(BOND, bond);
    x.set(PUSH, push);
    x.set(BEARS, bears);
    return x.behind(0, 0);
  }

  private static void weak() {
    due("as high as may be", weakOf("nsn", 3, 0, 6), 0);
    due("one higher", weakOf("nsns", 3, 0, 6), 1);
    due("a push", weakOf("nsn", 3, 1, 6), 1);
    due("the greater beside counts", weakOf("n;nsns;", 3, 0, 6), 0);
    due("at either side", weakOf(";nsns;n", 3, 0, 6), 0);
    due("at the end none is beside", weakOf("nsns;;n", 3, 0, 6), 1);
    due("bond less push is 0", weakOf("n;n", 1, 1, 6), 0);
    due("together below 0", weakOf("n;n", 0, 1, 6), 3);
    due("below 0, one lower", weakOf("n;ns", 0, 1, 6), 2);
    due("below 0 by two", weakOf("n;ns", 0, 2, 6), 3);
    due("below 0, empty ones", weakOf(";", 0, 1, 6), 3);
    due("bears", weakOf("nnn;SN;sss", 16, 0, 3), 0);
    due("bears no more, either way", weakOf("nnn;SN;sss", 16, 0, 2), 5);
    due("bears nothing", weakOf("nnn;SN;sss", 16, 0, 0), 5);
    due("all eight", weakOf("n;n;n;n;n;n;n;n", 16, 0, 0), 255);
  }

  private static void turn() {
    promise = "11 turn";
    WallTurns x = made("nsN;;S", "-2n1;-0s0S1;s0");
    dueRow("who", "0 1 0", x.turn(0, 0), x.turn(1, 0), x.turn(2, 0));
    dueRow("took", "1 1 0", x.turn(0, 1), x.turn(1, 1), x.turn(2, 1));
    dueRow("laid", "1 2 0", x.turn(0, 2), x.turn(1, 2), x.turn(2, 2));
    x.set(BEGINS, 1);
    dueRow("who, the other beginning", "1 0 1", x.turn(0, 0), x.turn(1, 0), x.turn(2, 0));
    dueRow("laid, the other beginning", "0 0 1", x.turn(0, 2), x.turn(1, 2), x.turn(2, 2));
    for (int v : new int[] {-1, 3, Integer.MIN_VALUE, Integer.MAX_VALUE}) {
      due("turn " + v, x.turn(v, 0), -2);
      due("what " + v, x.turn(0, v), -2);
    }
    due("no turns", new WallTurns().turn(0, 0), -2);
  }

  private static void first() {
    promise = "12 first";
    WallTurns x = made("nsN;;S", "-2n1;-0s0S1;-1n2");
    dueRow("at once", "0 0", x.first(0), x.first(1));
    x.set(BOND, 4);
    dueRow("never", "-1 -1", x.first(0), x.first(1));
    WallTurns y = made(";;n", "n0N2;s1S1;n2");
    dueRow("bond 3", "-1 -1", y.first(0), y.first(1));
    y.set(BOND, 2);
    dueRow("bond 2: 1, 0, 3", "1 2", y.first(0), y.first(1));
    y.set(BOND, 0);
    y.undo(0);
    dueRow("bond 0: 1, 0, 2", "1 0", y.first(0), y.first(1));
    WallTurns last = made("nn", "s0;s0;N0");
    dueRow("behind the last of all", "3 0", last.first(0), last.first(1));
    last.wipe(1);
    due("not before", last.first(0), -1);
    for (int what : OUTSIDE) due("what " + what, x.first(what), -2);
    dueRow("no wall", "-1 -1", new WallTurns().first(0), new WallTurns().first(1));
  }

  private static void highest() {
    promise = "13 highest";
    due("of like ones the first", made("nsN;;S", "-2n1;-0s0S1").highest(), 0);
    due("behind all turns", made("nnn;NN", "n0n0").highest(), 0);
    due("by height, not by stones", made("nnn;NN", "").highest(), 1);
    due("all empty", made(";;", "").highest(), 0);
    due("the last", made(";;;;;;;n", "").highest(), 7);
    due("one column", made("n", "").highest(), 0);
    due("no columns", new WallTurns().highest(), -1);
  }

  private static void plan(String what, String want, WallTurns x) {
    dueRow(what, want, x.mend(-1), x.mend(0), x.mend(1), x.mend(2));
  }

  private static void mend() {
    promise = "14 mend";
    WallTurns x = made("n;", "");
    plan("it stands", "0 -1 -1 -1", x);
    x.set(BOND, 0);
    plan("one beside", "1 1 -1 -1", x);
    WallTurns y = made("nnnnnnn", "");
    y.set(BOND, 16);
    plan("a lean mended", "1 8 -1 -1", y);
    write(y, 0, "nnnnnnnn");
    plan("no room", "-1 -1 -1 -1", y);
    write(y, 0, "NNNNN");
    plan("three do not do", "-1 -1 -1 -1", y);
    y.set(BEARS, 7);
    plan("three", "3 8 8 8", y);
    WallTurns z = made("NN;;NN", "");
    z.set(BEARS, 16);
    plan("between", "1 1 -1 -1", z);
    z.set(BOND, 2);
    plan("two between", "2 1 1 -1", z);
    WallTurns behindAll = made("NN;;NN", "n1");
    plan("behind all turns", "0 -1 -1 -1", behindAll);
    WallTurns apart = made("NN;;;NN", "");
    plan("two apart", "2 1 2 -1", apart);
    plan("no wall", "0 -1 -1 -1", new WallTurns());
    for (int i : new int[] {-2, 3, Integer.MIN_VALUE, Integer.MAX_VALUE}) due("i " + i, x.mend(i), -2);
    dueRow("the wall is as it was", "1 0", x.height(0, 0), x.height(0, 1));
  }

  private static void opened(String what, String want, WallTurns x, int pears) {
    dueRow(what, want, x.open(pears, -1), x.open(pears, 0), x.open(pears, 1), x.open(pears, 2));
  }

  private static void open() {
    promise = "15 open";
    WallTurns x = made("NNN;NNN", "");
    opened("none wanted", "0 -1 -1 -1", x, 0);
    opened("one", "1 0 -1 -1", x, 1);
    opened("both", "2 0 1 -1", x, 2);
    opened("no such many", "-1 -1 -1 -1", x, 3);
    x.set(PEARS, 2);
    opened("the pear by the second", "1 1 -1 -1", x, 1);
    opened("more than pears", "-1 -1 -1 -1", x, 2);
    x.set(PEARS, 255);
    x.set(LOW, 2);
    opened("it has to stand: 2 beside 6 does not", "3 0 0 1", x, 1);
    x.set(BOND, 4);
    opened("with more bond", "2 0 0 -1", x, 1);
    x.set(LOW, 0);
    x.set(BOND, 6);
    opened("all of one", "3 0 0 0", x, 1);
    opened("six are too many", "-1 -1 -1 -1", x, 2);
    WallTurns weak = made("nnnn;;s", "");
    opened("taken so that it stands", "1 0 -1 -1", weak, 0);
    opened("behind all turns", "0 -1 -1 -1", made("nnnn;;s", "n1"), 3);
    opened("no wall", "0 -1 -1 -1", new WallTurns(), 0);
    opened("no wall, no pears", "-1 -1 -1 -1", new WallTurns(), 1);
    for (int v : new int[] {-2, 9, Integer.MIN_VALUE, Integer.MAX_VALUE}) {
      due("pears " + v, x.open(v, 0), -2);
      due("i " + v, x.open(0, v), -2);
    }
    dueRow("just outside", "-2 -2", x.open(-1, 0), x.open(0, 3));
    due("the wall is as it was", x.height(0, 0), 6);
  }

  private static void sides() {
    promise = "16 sides";
    WallTurns x = made("n", "");
    x.set(BOND, 1);
    dueRow("the north lets it be", "1 8", x.sides(1, 0), x.sides(1, 1));
    dueRow("the south makes it fall", "-1 0", x.sides(2, 0), x.sides(2, 1));
    x.set(BEGINS, 1);
    dueRow("the south begins", "-1 0", x.sides(1, 0), x.sides(1, 1));
    WallTurns y = made("nnn;nnn", "");
    y.set(LOW, 3);
    dueRow("the south shades the first", "1 0", played(y, 1, 1));
    dueRow("the north does nothing", "2 8", played(y, 1, 0));
    dueRow("then the south shades one", "1 8", played(y, 2, 0));
    dueRow("each shades one", "0 0", played(y, 3, 1));
    write(y, 1, "n0");
    dueRow("behind all turns, the south is next", "0 1", played(y, 1, 0));
    WallTurns full = made("nsnsnsns", "");
    full.set(BOND, 16);
    dueRow("no room", "0 8", full.sides(1, 0), full.sides(1, 1));
    dueRow("no wall", "0 8", new WallTurns().sides(3, 0), new WallTurns().sides(3, 1));
    for (int v : new int[] {0, 4, -1, Integer.MIN_VALUE, Integer.MAX_VALUE}) due("n " + v, x.sides(v, 0), -2);
    for (int what : OUTSIDE) due("what " + what, x.sides(1, what), -2);
  }

  private static long[] played(WallTurns x, int n, int begins) {
    x.set(BEGINS, begins);
    return new long[] {x.sides(n, 0), x.sides(n, 1)};
  }

  private static void seen() {
    promise = "17 seen";
    WallTurns x = new WallTurns();
    dueRow("the least and the most", "1 2", x.seen(0, 0, 0), x.seen(12, 7, 16));
    for (int v : new int[] {-1, 17, Integer.MIN_VALUE, Integer.MAX_VALUE}) {
      due("turns " + v, x.seen(v, 0, 0), -2);
      due("column " + v, x.seen(0, v, 0), -2);
      due("height " + v, x.seen(0, 0, v), -2);
    }
    dueRow("just outside", "-2 -2", x.seen(13, 0, 0), x.seen(0, 8, 0));
    for (int i = 3; i <= 8; i++) due("the same again", x.seen(1, 1, 1), i);
    due("a ninth", x.seen(1, 1, 1), -4);
    due("BAD ahead of FULL", x.seen(1, 8, 1), -2);
    due("still eight", x.count(4), 8);
  }

  private static void forget() {
    promise = "18 forget";
    WallTurns x = made("n", "n0");
    due("none", x.forget(), 0);
    x.seen(1, 0, 5);
    x.seen(1, 0, 2);
    due("it cannot be", x.who(0), 0);
    due("both", x.forget(), 2);
    dueRow("gone", "0 0 1", x.forget(), x.count(4), x.who(0));
  }

  private static WallTurns withSheet(int form, int... items) {
    WallTurns x = new WallTurns();
    x.sheet(2, form, items.length);
    for (int i = 0; i < items.length; i++) x.lay(2, form, i, items[i]);
    return x;
  }

  private static void read() {
    promise = "19 read";
    WallTurns x = withSheet(0, 0, 0, 4, 1, 7, 16, 12, 0);
    due("two whole ones", x.read(2), 2);
    due("they are more", x.read(2), 2);
    dueRow("four", "4 3", x.count(4), withSheet(1, 1, 1, 1, 2, 2, 2, 3, 3, 3).read(2));
    due("as long as each may be: turns", withSheet(2, 1, 1, 1, 13, 0, 0, 1, 1, 1).read(2), 1);
    due("column", withSheet(2, 1, 1, 1, 0, 8, 0, 1, 1, 1).read(2), 1);
    due("height", withSheet(2, 1, 1, 1, 0, 0, 17, 1, 1, 1).read(2), 1);
    due("below 0", withSheet(0, 0, 0, -1).read(2), 0);
    dueRow("too few", "0 0 1", withSheet(0).read(2), withSheet(0, 1, 1).read(2), withSheet(0, 1, 1, 1).read(2));
    WallTurns y = withSheet(1, new int[60]);
    due("room for eight", y.read(2), 8);
    dueRow("room for none", "0 8", y.read(2), y.count(4));
    dueRow("LOST", "-11 1", y.read(1), y.count(8));
    for (int s : new int[] {-1, 4, Integer.MIN_VALUE, Integer.MAX_VALUE}) due("sheet " + s, y.read(s), -2);
    WallTurns z = made("n", "n0;s0");
    z.sheet(0, 0, 3);
    z.lay(0, 0, 0, 2);
    z.lay(0, 0, 2, 2);
    z.read(0);
    due("turns, column, height in this order", z.who(1), 3);
  }

  private static String whoOf(WallTurns x) { return x.who(0) + " " + x.who(1) + " " + x.who(2); }

  private static void asWho(String what, WallTurns x, String want) {
    if (!whoOf(x).equals(want)) {
      wrong++;
      System.out.println(promise + ": " + what + " answered " + whoOf(x) + ", due is " + want);
    }
  }

  private static void who() {
    promise = "20 who";
    WallTurns x = made("s;", "-0n0;s1;n1N1");
    asWho("nothing seen: any", x, "7 7 7");
    x.seen(1, 0, 2);
    asWho("2 high: the first took nothing", x, "1 0 0");
    x.forget();
    x.seen(1, 0, 0);
    asWho("0 high: the first laid nothing", x, "0 1 0");
    x.forget();
    x.seen(3, 1, 1);
    asWho("the third laid nothing, or was by the other", x, "0 4 4");
    x.forget();
    x.seen(3, 1, 3);
    asWho("the second laid nothing, or was by the other", x, "0 2 2");
    x.seen(1, 0, 1);
    asWho("both seen", x, "0 2 2");
    x.seen(2, 0, 2);
    asWho("and what cannot be", x, "0 0 0");
    x.forget();
    x.seen(3, 1, 4);
    asWho("as it was: those without which it would be so", x, "7 1 1");
    x.seen(4, 1, 4);
    asWho("behind more turns than there are", x, "0 0 0");
    x.forget();
    x.seen(0, 2, 0);
    asWho("of a column that there is not", x, "0 0 0");
    x.forget();
    x.seen(0, 0, 2);
    asWho("not so at the start", x, "0 0 0");
    for (int v : new int[] {-1, 3, Integer.MIN_VALUE, Integer.MAX_VALUE}) due("what " + v, x.who(v), -2);
    asWho("no turns", new WallTurns(), "0 0 0");
    WallTurns y = made("n", "-0s0;n0");
    y.seen(1, 0, 1);
    asWho("both by the other: only one may be", y, "3 3 3");
    y.forget();
    y.set(BEGINS, 1);
    y.seen(1, 0, 2);
    asWho("the south begins", y, "1 0 0");
  }

  private static void frost() {
    promise = "21 frost";
    WallTurns x = made("nn", "");
    x.set(BOND, 1);
    dueRow("0 by 1", "0 1", x.frost(0, 0), x.frost(0, 1));
    dueRow("a quarter", "1 4", x.frost(4, 0), x.frost(4, 1));
    dueRow("three eighths", "3 8", x.frost(6, 0), x.frost(6, 1));
    dueRow("sure", "1 1", x.frost(16, 0), x.frost(16, 1));
    write(x, 0, "nn;;nn");
    dueRow("both by themselves", "25 256", x.frost(5, 0), x.frost(5, 1));
    write(x, 0, "n;;nn");
    dueRow("where it stands either way", "5 16", x.frost(5, 0), x.frost(5, 1));
    dueRow("one leans on the other", "13 16", frostOf("n;ns", 1, 16, 4));
    dueRow("eight columns, sure", "1 1", frostOf("nn;nn;nn;nn;nn;nn;nn;nn", 16, 1, 16));
    dueRow("eight columns", "1 4294967296", frostOf("nn;nn;nn;nn;nn;nn;nn;nn", 16, 1, 1));
    dueRow("one of six stands either way", "759375 1048576", frostOf("n;nn;nn;nn;nn;nn", 16, 1, 15));
    dueRow("behind all turns", "1 1", frostOfTurns("nn", "n0;-0s0;-0n0"));
    dueRow("no wall", "1 1", new WallTurns().frost(5, 0), new WallTurns().frost(5, 1));
    long bad = Long.MIN_VALUE + 2;
    for (int c : new int[] {-1, 17, Integer.MIN_VALUE, Integer.MAX_VALUE}) due("c " + c, x.frost(c, 0), bad);
    for (int what : OUTSIDE) due("what " + what, x.frost(4, what), bad);
  }

  private static long[] frostOf(String wall, int bond, int bears, int c) {
    WallTurns x = made(wall, "");
    x.set(BOND, bond);
    x.set(BEARS, bears);
    return new long[] {x.frost(c, 0), x.frost(c, 1)};
  }

  private static long[] frostOfTurns(String wall, String turns) {
    WallTurns x = made(wall, turns);
    return new long[] {x.frost(8, 0), x.frost(8, 1)};
  }

  private static void years() {
    promise = "22 years";
    WallTurns x = made("n", "");
    dueRow("seed 0, heights", "1 2 3 4 5 4 5 6 7 8", heightsOfYears(x, 0, 10, 0));
    dueRow("seed 0, behind how many it does not stand", "0 0 0 1 2 3 4 5 6 7", heightsOfYears(x, 0, 10, -1));
    dueRow("only the lower bits of the seed's sign are away", "1 2 3", heightsOfYears(x, Integer.MIN_VALUE, 3, 0));
    dueRow("seed 1", "2 3 4 5 6 7 6", heightsOfYears(x, 1, 7, 0));
    x.set(BEGINS, 1);
    dueRow("the south begins: it is taken", "0 1 2", heightsOfYears(x, 0, 3, 0));
    WallTurns y = made(";;", "");
    dueRow("three columns", "2 2 0 0", y.years(0, 6, 0), y.years(0, 6, 1), y.years(0, 6, 2), y.years(0, 6, -1));
    WallTurns full = made("nsnsnsns", "");
    due("no room", full.years(1, 6, 0), 8);
    due("forty", full.years(0, 40, -1), 40);
    WallTurns z = made("n", "s0");
    due("behind a turn the south is next", z.years(0, 1, 0), 0);
    dueRow("the wall is as it was", "1 1", x.height(0, 0), x.years(0, 2, 0));
    for (int n : new int[] {0, 41, -1, Integer.MIN_VALUE, Integer.MAX_VALUE}) due("n " + n, x.years(0, n, 0), -2);
    for (int v : new int[] {-2, 1, Integer.MIN_VALUE, Integer.MAX_VALUE}) due("column " + v, x.years(0, 1, v), -2);
    dueRow("no columns", "-2 -2", new WallTurns().years(0, 1, -1), new WallTurns().years(0, 1, 0));
  }

  private static long[] heightsOfYears(WallTurns x, int seed, int n, int column) {
    long[] all = new long[n];
    for (int i = 0; i < n; i++) all[i] = x.years(seed, i + 1, column);
    return all;
  }

  private static void sheet() {
    promise = "23 sheet";
    WallTurns x = new WallTurns();
    dueRow("the least and the most", "0 60 1", x.sheet(0, 0, 0), x.sheet(3, 2, 60), x.sheet(1, 1, 1));
    x.lay(3, 2, 59, 7);
    x.lay(3, 2, 0, 7);
    x.sheet(3, 2, 60);
    dueRow("a new row", "0 0", x.get(3, 2, 59), x.get(3, 2, 0));
    x.sheet(3, 0, 2);
    dueRow("of a new form", "0 -13 2", x.get(3, 0, 0), x.lay(3, 2, 0, 1), x.lose(3));
    for (int v : new int[] {-1, 4, Integer.MIN_VALUE, Integer.MAX_VALUE}) due("sheet " + v, x.sheet(v, 0, -1), -2);
    for (int v : new int[] {-1, 3, Integer.MIN_VALUE, Integer.MAX_VALUE}) due("form " + v, x.sheet(0, v, -1), -2);
    for (int v : new int[] {61, Integer.MAX_VALUE}) due("n " + v, x.sheet(0, 0, v), -2);
    for (int v : new int[] {-1, Integer.MIN_VALUE}) due("n " + v, x.sheet(1, 0, v), SIZE);
    dueRow("it changed nothing but the finding", "5 1", x.count(8), x.lose(1));
  }

  private static void lose() {
    promise = "24 lose";
    WallTurns x = new WallTurns();
    x.sheet(0, 1, 5);
    x.sheet(1, 1, 0);
    dueRow("five, none", "5 0", x.lose(0), x.lose(1));
    dueRow("LOST", "-11 -11 1", x.lose(0), x.lose(1), x.count(8));
    for (int v : new int[] {-1, 4, Integer.MIN_VALUE, Integer.MAX_VALUE}) due("sheet " + v, x.lose(v), -2);
  }

  private static void lay() {
    promise = "25 lay";
    WallTurns x = new WallTurns();
    for (int form = 0; form < 3; form++) x.sheet(form, form, 2);
    int v = 0x12348FFE;
    for (int form = 0; form < 3; form++) due("form " + form, x.lay(form, form, 1, v), 1);
    dueRow("the lowest bits, with their sign", "-2 -28674 305434622", x.get(0, 0, 1), x.get(1, 1, 1), x.get(2, 2, 1));
    x.lay(0, 0, 0, 128);
    x.lay(1, 1, 0, 32768);
    x.lay(2, 2, 0, Integer.MIN_VALUE);
    dueRow("the least", "-128 -32768 -2147483648", x.get(0, 0, 0), x.get(1, 1, 0), x.get(2, 2, 0));
    for (int n : new int[] {-1, 4, Integer.MIN_VALUE, Integer.MAX_VALUE}) due("sheet " + n, x.lay(n, 0, 0, 0), -2);
    for (int n : new int[] {-1, 3, Integer.MIN_VALUE, Integer.MAX_VALUE}) due("form " + n, x.lay(3, n, 0, 0), -2);
    due("NULL ahead of INDEX", x.lay(3, 0, 9, 0), NULL);
    dueRow("CAST ahead of INDEX", "-13 3", x.lay(0, 1, 9, 0), x.count(8));
    for (int i : new int[] {-1, 2, Integer.MIN_VALUE, Integer.MAX_VALUE}) due("item " + i, x.lay(0, 0, i, 0), INDEX);
    dueRow("nothing changed but the finding", "-128 -2 2", x.get(0, 0, 0), x.get(0, 0, 1), x.count(8));
  }

  private static void get() {
    promise = "26 get";
    WallTurns x = new WallTurns();
    x.sheet(0, 0, 2);
    x.lay(0, 0, 1, -7);
    dueRow("items", "0 -7", x.get(0, 0, 0), x.get(0, 0, 1));
    int least = Integer.MIN_VALUE;
    for (int v : new int[] {-1, 4, least, Integer.MAX_VALUE}) due("sheet " + v, x.get(v, 0, 0), least);
    for (int v : new int[] {-1, 3, least, Integer.MAX_VALUE}) due("form " + v, x.get(0, v, 0), least);
    due("BAD is no finding", x.count(8), 0);
    dueRow("NULL", least + " 1", x.get(1, 0, 5), x.count(8));
    dueRow("CAST", least + " 3", x.get(0, 1, 5), x.count(8));
    for (int i : new int[] {-1, 2, least, Integer.MAX_VALUE}) dueRow("item " + i, least + " 2", x.get(0, 0, i), x.count(8));
  }

  private static String items(WallTurns x, int s, int form, int n) {
    StringBuilder all = new StringBuilder();
    for (int i = 0; i < n; i++) all.append(x.get(s, form, i));
    return all.toString();
  }

  private static void asItems(String what, WallTurns x, int s, String want) {
    String got = items(x, s, 0, want.length());
    if (!got.equals(want)) {
      wrong++;
      System.out.println(promise + ": " + what + " answered " + got + ", due is " + want);
    }
  }

  private static WallTurns five() {
    WallTurns x = new WallTurns();
    x.sheet(0, 0, 5);
    for (int i = 0; i < 5; i++) x.lay(0, 0, i, i + 1);
    x.sheet(1, 0, 3);
    x.sheet(2, 2, 3);
    return x;
  }

  private static void copy() {
    promise = "27 copy";
    WallTurns x = five();
    due("to another", x.copy(0, 3, 1, 1, 2), 1);
    asItems("to another", x, 1, "045");
    due("to itself, up", x.copy(0, 0, 0, 1, 4), 1);
    asItems("as they were", x, 0, "11234");
    WallTurns whole = withSheet(1, new int[60]);
    whole.lay(2, 1, 59, 7);
    whole.sheet(3, 1, 60);
    dueRow("all there can be", "1 7", whole.copy(2, 0, 3, 0, 60), whole.get(3, 1, 59));
    x = five();
    due("to itself, down", x.copy(0, 1, 0, 0, 4), 1);
    asItems("as they were", x, 0, "23455");
    dueRow("none, at the end", "1 1", x.copy(0, 5, 1, 3, 0), x.copy(0, 0, 1, 0, 0));
    for (int v : new int[] {-1, 4, Integer.MIN_VALUE, Integer.MAX_VALUE}) {
      dueRow("sheet " + v, "-2 -2", x.copy(v, 0, 3, 0, 1), x.copy(3, 0, v, 0, 1));
    }
    dueRow("NULL", "-11 -11 -11 1", x.copy(3, 0, 2, 0, 9), x.copy(2, 0, 3, 0, 9), x.copy(3, 0, 3, 0, 9), x.count(8));
    dueRow("STORE ahead of INDEX", "-14 4", x.copy(0, 0, 2, 0, -1), x.count(8));
    dueRow("INDEX", "-12 -12 -12 -12", x.copy(0, -1, 1, 0, 1), x.copy(0, 0, 1, -1, 1), x.copy(0, 0, 1, 0, -1),
        x.copy(0, 0, 1, 0, 4));
    dueRow("INDEX with none", "-12 -12 2", x.copy(0, 6, 1, 0, 0), x.copy(0, 0, 1, 4, 0), x.count(8));
    int most = Integer.MAX_VALUE;
    dueRow("INDEX far off", "-12 -12 -12 -12", x.copy(0, most, 1, 0, most), x.copy(0, 0, 1, most, 2),
        x.copy(0, 1, 1, 1, most), x.copy(0, 0, 1, 0, Integer.MIN_VALUE));
    asItems("they changed nothing", x, 0, "23455");
    x.sheet(1, 2, 0);
    due("an empty one of another form", x.copy(0, 0, 1, 0, 0), STORE);
  }

  private static void writeHeights() {
    promise = "28 write";
    WallTurns x = made("nsN;;S", "-2n1;-0s0S1");
    x.sheet(0, 0, 5);
    x.lay(0, 0, 4, 9);
    due("three columns", x.write(0, 0), 3);
    asItems("behind none", x, 0, "40209");
    due("behind both", x.write(2, 0), 3);
    asItems("behind both", x, 0, "33009");
    x.sheet(1, 1, 2);
    dueRow("two items", "2 4 1", x.write(1, 1), x.get(1, 1, 0), x.get(1, 1, 1));
    x.sheet(1, 2, 0);
    due("no items", x.write(1, 1), 0);
    for (int v : new int[] {-1, 3, Integer.MIN_VALUE, Integer.MAX_VALUE}) due("behind " + v, x.write(v, 3), -2);
    for (int v : new int[] {-1, 4, Integer.MIN_VALUE, Integer.MAX_VALUE}) due("sheet " + v, x.write(0, v), -2);
    dueRow("LOST", "-11 1", x.write(0, 3), x.count(8));
    x.wipe(0);
    due("no columns", x.write(0, 0), 0);
    asItems("they stay", x, 0, "33009");
  }

  private static void count() {
    promise = "29 count";
    WallTurns x = made("nsN;;S", "-2n1;-0s0S1;s0;-1n7");
    x.set(PUSH, 2);
    x.seen(0, 0, 0);
    x.lose(0);
    dueRow("all", "3 4 6 19 1 5 2 2 1", x.count(0), x.count(1), x.count(2), x.count(3), x.count(4), x.count(5),
        x.count(6), x.count(7), x.count(8));
    x.sheet(0, 0, -1);
    x.get(0, 7, 0);
    due("the latest finding", x.count(8), 5);
    for (int v : new int[] {-1, 9, Integer.MIN_VALUE, Integer.MAX_VALUE}) due("what " + v, x.count(v), -2);
  }

  private static void digest() {
    promise = "30 digest";
    due("a new object", new WallTurns().digest(), digestOf(new WallTurns()));
    String[][] all = {{"n;sN;;SS", "-2n1;-0s0S1;n7"}, {"nsnsnsns;n;NNN;S;s;;n;N", "s0;n0;-0s0"}, {"x", "n0"}, {"NN;;NN", ""}};
    for (String[] texts : all) {
      WallTurns x = made(texts[0], texts[1]);
      due("of " + texts[0], x.digest(), digestOf(x));
      x.seen(1, 0, 4);
      x.set(PUSH, 2);
      x.set(BEGINS, 1);
      x.lose(0);
      due("once more of " + texts[0], x.digest(), digestOf(x));
      due("it changes nothing, " + texts[0], x.digest(), digestOf(x));
    }
  }

  private static long digestOf(WallTurns x) {
    java.util.List<Long> all = new java.util.ArrayList<>();
    for (int what = 0; what <= 7; what++) all.add((long) x.count(what));
    all.add((long) x.fault(0));
    all.add((long) x.fault(1));
    int columns = x.count(0);
    int turns = x.count(1);
    for (int c = 0; c < columns; c++) {
      for (int t = 0; t <= turns; t += Math.max(1, turns)) {
        all.addAll(java.util.List.of((long) x.height(t, c), (long) x.lean(t, c), (long) x.stone(t, c, -1), (long) x.stone(t, c, 0)));
        if (turns == 0) all.addAll(new java.util.ArrayList<>(all.subList(all.size() - 4, all.size())));
      }
    }
    for (int t = 0; t < turns; t++) for (int what = 0; what <= 2; what++) all.add((long) x.turn(t, what));
    for (int what = 0; what <= 3; what++) all.add((long) x.behind(0, what));
    for (int what = 0; what <= 3; what++) all.add((long) x.behind(turns, what));
    for (int c = 0; c < columns; c++) all.add((long) x.years(7, 9, c));
    for (int v : new int[] {x.first(0), x.first(1), x.highest(), x.mend(-1), x.mend(0), x.open(3, -1), x.open(3, 0),
        x.sides(2, 0), x.sides(2, 1), x.who(0), x.who(1), x.who(2)}) all.add((long) v);
    all.add(x.frost(5, 0));
    all.add(x.frost(5, 1));
    all.add((long) x.years(7, 9, -1));
    long h = 17;
    for (long v : all) h = 31 * h + v;
    return h;
  }
}
