import java.util.ArrayDeque;
import java.util.Deque;

/**
 * What is promised holds up to the 512th call: runs of just so many, with both texts full or near it, all SEEN taken and
 * all four SHEETS held. What is due is worked out by hand here, but for YEARS, which the model tells; ModelTests makes such
 * runs of calls by a seed.
 */
public final class LongRunTests {
  private static final int MOST_CALLS = 512;
  private static final int NOT = -3, FULL = -4, NULL = -11, INDEX = -12, CAST = -13, STORE = -14, SIZE = -15;
  private static final int LEAST = Integer.MIN_VALUE;
  private static final long LONG_BAD = Long.MIN_VALUE + 2;

  /** 63 bytes, and 59: eight columns, of which seven are full; twelve turns that each take one and lay one. */
  private static final String FULL_WALL = "nsnsnsns;nsnsnsns;nsnsnsns;nsnsnsns;nsnsnsns;nsnsnsns;nsnsnsns;";
  private static final String FULL_TURNS = "-0n0;-0s0;-1n1;-1s1;-2n2;-2s2;-3n3;-3s3;-4n4;-4s4;-5n5;-5s5";

  /** Likewise full, but with room for one stone on each column; the last one leans by 14. The turns do nothing. */
  private static final String ROOMY_WALL = "nsnsnsn;".repeat(7) + "NNNNNNN";
  private static final String IDLE_TURNS = "s0s0;n0n0;".repeat(5) + "s0s0;n0n0";

  private static String run = "";
  private static int runs = 0;
  private static int wrong = 0;

  /** An object whose calls are counted. */
  private static final class Counted {
    private final WallTurns x = new WallTurns();
    private int calls = 0;

    WallTurns x() {
      calls++;
      if (calls > MOST_CALLS) throw new IllegalStateException(run + ": more calls than are promised");
      return x;
    }

    int left() { return MOST_CALLS - calls; }

    Counted typed(int text, String all) {
      for (char c : all.toCharArray()) x().type(text, c);
      return this;
    }

    /** The run is over: it has to have been a whole one. */
    void over() {
      due("calls of the run", calls, MOST_CALLS);
      runs++;
    }
  }

  private static void due(String what, long got, long want) {
    if (got != want) {
      wrong++;
      System.out.println(run + ": " + what + " answered " + got + ", due is " + want);
    }
  }

  private static Counted begin(String promise) {
    run = promise;
    return new Counted();
  }

  /** Texts, SEEN and SHEETS all full, by 134 calls. */
  private static Counted beginFull(String promise) { return beginFull(promise, FULL_WALL, FULL_TURNS); }

  private static Counted beginFull(String promise, String wall, String turns) {
    Counted o = begin(promise).typed(0, wall).typed(1, turns);
    for (int i = 1; i <= 8; i++) due("seen", o.x().seen(12, 7, 0), i);
    for (int s = 0; s < 4; s++) due("sheet " + s, o.x().sheet(s, Math.min(s, 2), 60), 60);
    return o;
  }

  public static void main(String[] args) {
    for (int text = 0; text < 2; text++) {
      typeAtTheLimit(text);
      undoneAndTypedAgain(text);
      wipedAgainAndAgain(text);
    }
    allBytesUndone();
    faultsComeAndGo();
    rulesBackAndForth();
    behindAllTurns();
    plansOfAFullWall();
    dearestPlans();
    seenAndForgotten();
    readAgainAndAgain();
    frostAndYears();
    allItemsOfAllSheets();
    copiesAndWrites();
    lostAndMadeAgain();
    findings();
    nothingButRefusals();
    digests();
    sideBySide();
    System.out.println(wrong == 0 ? runs + " runs of " + MOST_CALLS + " calls hold" : wrong + " answers are not as due");
    if (wrong != 0) System.exit(1);
  }

  private static String fullText(int text) { return text == 0 ? FULL_WALL : FULL_TURNS; }

  // ---- promises 2 to 6

  private static void typeAtTheLimit(int text) {
    Counted o = begin("2 type: FULL up to the 512th call, text " + text).typed(text, fullText(text));
    int most = fullText(text).length();
    while (o.left() > 3) due("one byte too many", o.x().type(text, 'n'), FULL);
    due("bytes", o.x().count(2 + text), most);
    due("fault", o.x().fault(text), -1);
    due("the 512th call", o.x().type(text, 255), FULL);
    o.over();
  }

  private static void undoneAndTypedAgain(int text) {
    Counted o = begin("4 undo: the last byte of a full text, again and again, text " + text).typed(text, fullText(text));
    int most = fullText(text).length();
    char last = fullText(text).charAt(most - 1);
    while (o.left() >= 6) {
      due("undo", o.x().undo(text), most - 1);
      // a wall without its last ; has a column less; turns without their last figure are not ended
      due("fault", o.x().fault(text), text == 0 ? -1 : most - 1);
      due("columns, turns", o.x().count(text), text == 0 ? 7 : 0);
      due("type", o.x().type(text, last), most);
      due("columns, turns", o.x().count(text), text == 0 ? 8 : 12);
    }
    while (o.left() > 0) due("bytes", o.x().count(2 + text), most);
    o.over();
  }

  private static void wipedAgainAndAgain(int text) {
    Counted o = begin("3 wipe: a full text, as often as it goes, text " + text);
    int most = fullText(text).length();
    while (o.left() > most + 3) {
      o.typed(text, fullText(text));
      due("a byte too many", o.x().type(text, 0), FULL);
      due("wipe", o.x().wipe(text), most);
      due("bytes", o.x().count(2 + text), 0);
    }
    while (o.left() > 1) due("an empty text", o.x().wipe(text), 0);
    due("the 512th call", o.x().undo(text), NOT);
    o.over();
  }

  /** Behind each byte undone all is as it was ahead of that byte; 122 bytes forth and back. */
  private static void allBytesUndone() {
    Deque<Long> were = new ArrayDeque<>();
    Counted forth = begin("4 undo: bytes undone, all of both texts, forth");
    for (int text = 0; text < 2; text++) {
      for (char c : fullText(text).toCharArray()) {
        were.push(forth.x().digest());
        forth.x().type(text, c);
      }
    }
    while (forth.left() > 0) due("all behind all turns", forth.x().count(5), 56);
    forth.over();
    Counted back = begin("4 undo: bytes undone, all of both texts, back").typed(0, FULL_WALL).typed(1, FULL_TURNS);
    for (int text = 1; text >= 0; text--) {
      for (int left = fullText(text).length() - 1; left >= 0; left--) {
        due("undo", back.x().undo(text), left);
        due("digest with " + left + " bytes of text " + text, back.x().digest(), were.pop());
      }
      due("it is empty", back.x().undo(text), NOT);
    }
    while (back.left() > 0) due("both are empty", back.x().wipe(back.left() % 2), 0);
    back.over();
  }

  /** A byte that cannot be, far from the end, is told until it is undone, whatever comes behind it. */
  private static void faultsComeAndGo() {
    Counted o = begin("5 fault: of both texts, near full").typed(0, FULL_WALL.substring(0, 40)).typed(1, FULL_TURNS.substring(0, 39));
    while (o.left() >= 86) {
      due("a byte that cannot be", o.x().type(0, 'x'), 41);
      due("turns not begun", o.x().type(1, ';'), 40);
      for (int i = 42; i <= 61; i++) due("more bytes", o.x().type(0, 'n'), i);
      for (int i = 41; i <= 58; i++) due("more bytes", o.x().type(1, ';'), i);
      due("the first byte it cannot go on with", o.x().fault(0), 40);
      due("the first byte it cannot go on with", o.x().fault(1), 40);
      for (int i = 60; i >= 40; i--) due("undo", o.x().undo(0), i);
      for (int i = 57; i >= 39; i--) due("undo", o.x().undo(1), i);
      due("well again", o.x().fault(0), -1);
      due("well again", o.x().fault(1), -1);
      due("as many turns", o.x().count(1), 8);
    }
    while (o.left() > 0) due("as many columns", o.x().count(0), 5);
    o.over();
  }

  private static void rulesBackAndForth() {
    Counted o = beginFull("6 set: back and forth, what it was each time");
    int[] first = {0, 3, 0, 6, 4, 255};
    int[] most = {1, 16, 9, 16, 16, 255};
    while (o.left() >= 18) {
      for (int what = 0; what < 6; what++) due("what it was: " + what, o.x().set(what, most[what]), first[what]);
      // the south begins: the uppermost stones are its own, so that it takes none, and lays no n
      due("turn 0 took", o.x().turn(0, 1), 0);
      for (int what = 0; what < 6; what++) due("what it was: " + what, o.x().set(what, first[what]), most[what]);
      due("turn 0 took", o.x().turn(0, 1), 1);
      due("turn 0 laid", o.x().turn(0, 2), 1);
      due("turns that did something", o.x().count(6), 12);
      due("PUSH", o.x().count(7), 0);
      due("BAD", o.x().set(1, 17), -2);
    }
    while (o.left() > 0) due("BAD", o.x().set(6, 0), -2);
    o.over();
  }

  // ---- promises 7 to 16

  /** Each turn of a pair takes the other's uppermost stone and lays one in its stead: behind both, n n at the top. */
  private static void behindAllTurns() {
    Counted o = begin("7 to 12: all there is to be told behind each turn").typed(0, FULL_WALL).typed(1, FULL_TURNS);
    for (int turns = 0; turns <= 12; turns++) {
      for (int column = 0; column < 8; column++) {
        // behind a turn of the north nsnsnsns is nsnsnsnn, behind the one of the south nsnsnsns again
        boolean swapped = turns % 2 == 1 && column == turns / 2;
        due("height", o.x().height(turns, column), column < 7 ? 8 : 0);
        due("lean", o.x().lean(turns, column), swapped ? 2 : 0);
        due("stones", o.x().stone(turns, column, 7), column == 7 ? -1 : swapped ? 0 : 1);
      }
      due("weak ones", o.x().behind(turns, 0), 0);
      due("pears", o.x().behind(turns, 1), 1);
      due("weight of the north", o.x().behind(turns, 2), 28 + turns % 2);
      due("weight of the south", o.x().behind(turns, 3), 28 - turns % 2);
    }
    for (int turn = 0; turn < 12; turn++) {
      due("who", o.x().turn(turn, 0), turn % 2);
      due("laid", o.x().turn(turn, 2), 1);
    }
    due("it stands all the time", o.x().first(0), -1);
    due("the 512th call", o.x().first(1), -1);
    o.over();
  }

  private static void plansOfAFullWall() {
    Counted o = beginFull("13 to 16, 20: plans, where only the eighth column has room");
    while (o.left() >= 18) {
      due("highest", o.x().highest(), 0);
      due("mend", o.x().mend(-1), 0);
      due("BEARS were", o.x().set(3, 0), 6);
      due("it leans nowhere", o.x().mend(-1), 0);
      due("BEARS were", o.x().set(3, 6), 0);
      due("open, one pear", o.x().open(1, -1), 0);
      due("open, two pears: four would have to be taken", o.x().open(2, -1), -1);
      due("open, eight pears", o.x().open(8, 2), -1);
      due("sides", o.x().sides(3, 0), 1);
      due("sides: three are not too high, so the least", o.x().sides(3, 1), 7);
      due("sides of two", o.x().sides(2, 0), 1);
      due("LOW was", o.x().set(4, 2), 4);
      due("sides: the north lets it be", o.x().sides(3, 0), 1);
      due("LOW was", o.x().set(4, 0), 2);
      due("sides: the south shades it", o.x().sides(2, 0), 0);
      due("sides: whatever the north does", o.x().sides(2, 1), 7);
      due("LOW was", o.x().set(4, 4), 0);
      due("who: the eighth is empty anyway", o.x().who(0), 4095);
    }
    while (o.left() > 0) due("the wall is as it was", o.x().height(12, 7), 0);
    o.over();
  }

  /** The last column leans by 14, and by 8 with three stones less: no three laid do, three taken do as soon as it bears 8. */
  private static void dearestPlans() {
    Counted o = beginFull("14 to 16: plans, as dear as they can be", ROOMY_WALL, IDLE_TURNS);
    while (o.left() >= 13) {
      due("mend", o.x().mend(-1), -1);
      due("mend", o.x().mend(2), -1);
      due("open", o.x().open(0, -1), -1);
      due("sides", o.x().sides(3, 0), -1);
      due("sides: all like, the least", o.x().sides(3, 1), 0);
      due("BEARS were", o.x().set(3, 8), 6);
      due("LOW was", o.x().set(4, 8), 4);
      due("open, eight pears", o.x().open(8, -1), 3);
      due("open, the third", o.x().open(8, 2), 7);
      due("mend", o.x().mend(0), -1);
      due("sides", o.x().sides(3, 0), -1);
      due("BEARS were", o.x().set(3, 6), 8);
      due("LOW was", o.x().set(4, 4), 8);
    }
    while (o.left() > 0) due("the wall is as it was", o.x().height(12, 7), 14);
    o.over();
  }

  // ---- promises 17 to 22

  private static void seenAndForgotten() {
    Counted o = begin("17 seen, 18 forget: all eight, again and again");
    while (o.left() > 11) {
      for (int i = 1; i <= 8; i++) due("seen", o.x().seen(i, i - 1, 16), i);
      due("a ninth", o.x().seen(0, 0, 0), FULL);
      due("BAD ahead of FULL", o.x().seen(13, 0, 0), -2);
      due("forget", o.x().forget(), 8);
    }
    while (o.left() > 0) due("none", o.x().forget(), 0);
    o.over();
  }

  /**
   * A turn that takes nothing leaves its column full, so that nothing is laid; one that lays nothing leaves seven; one by
   * the other brother does nothing. So a column seven high in the end is by those who laid, eight high by all others.
   */
  private static void readAgainAndAgain() {
    Counted o = beginFull("19 read, 20 who: SEEN from SHEETS, again and again");
    for (int s = 0; s < 2; s++) {
      for (int column = 0; column < 8; column++) {
        int high = column == 7 ? 0 : column == 0 && s == 0 ? 7 : 8;
        int[] items = {12, column, high};
        for (int k = 0; k < 3; k++) due("lay", o.x().lay(s, s, 3 * column + k, items[k]), 1);
      }
    }
    while (o.left() >= 13) {
      due("forget", o.x().forget(), 8);
      due("read: eight of twenty", o.x().read(0), 8);
      due("seven high: pulled", o.x().who(0), 0);
      due("seven high: laid", o.x().who(1), 3);
      due("seven high: flipped", o.x().who(2), 0);
      due("forget", o.x().forget(), 8);
      due("read: eight of twenty", o.x().read(1), 8);
      due("eight high: pulled", o.x().who(0), 4095);
      due("eight high: laid", o.x().who(1), 0);
      due("eight high: flipped", o.x().who(2), 4095);
      due("read, all taken", o.x().read(0), 0);
      due("seen, all taken", o.x().seen(0, 0, 0), FULL);
      due("seen so many", o.x().count(4), 8);
    }
    while (o.left() > 0) due("BAD", o.x().read(4), -2);
    o.over();
  }

  /** With BOND 7 and BEARS 14 it falls if the seventh column loses one and the eighth does not. */
  private static void frostAndYears() {
    Counted o = beginFull("21 frost, 22 years: on a full wall", ROOMY_WALL, IDLE_TURNS);
    Model model = new Model();
    for (char c : ROOMY_WALL.toCharArray()) model.type(0, c);
    for (char c : IDLE_TURNS.toCharArray()) model.type(1, c);
    due("BOND was", o.x().set(1, 7), model.set(1, 7));
    due("BEARS were", o.x().set(3, 14), model.set(3, 14));
    for (int i = 0; o.left() >= 6; i++) {
      int c = i % 17;
      int above = 256 - c * (16 - c);
      int common = java.math.BigInteger.valueOf(above).gcd(java.math.BigInteger.valueOf(256)).intValue();
      due("above, " + c, o.x().frost(c, 0), above / common);
      due("below, " + c, o.x().frost(c, 1), 256 / common);
      int seed = i * 0x01234567;
      due("years of " + seed, o.x().years(seed, 40, i % 8), model.years(seed, 40, i % 8));
      due("years of " + seed, o.x().years(seed, 1 + i % 40, -1), model.years(seed, 1 + i % 40, -1));
      due("BAD", o.x().frost(17, 0), LONG_BAD);
      due("BAD", o.x().years(i, 41, 0), -2);
    }
    while (o.left() > 0) due("the wall is as it was", o.x().count(5), 56);
    o.over();
  }

  // ---- promises 23 to 30

  private static void allItemsOfAllSheets() {
    Counted o = begin("25 lay, 26 get: sixty items of each of four SHEETS");
    int[] forms = {0, 1, 2, 0};
    for (int s = 0; s < 4; s++) due("sheet", o.x().sheet(s, forms[s], 60), 60);
    for (int i = 0; i < 60; i++) {
      for (int s = 0; s < 4; s++) due("lay", o.x().lay(s, forms[s], i, valueAt(s, i)), 1);
    }
    for (int i = 59; i >= 0; i--) {
      due("byte " + i, o.x().get(0, 0, i), (byte) valueAt(0, i));
      due("short " + i, o.x().get(1, 1, i), (short) valueAt(1, i));
      due("int " + i, o.x().get(2, 2, i), valueAt(2, i));
      due("byte of the fourth " + i, o.x().get(3, 0, i), (byte) valueAt(3, i));
    }
    for (int s = 0; s < 4; s++) due("INDEX", o.x().get(s, forms[s], 60), LEAST);
    due("copy of all", o.x().copy(0, 0, 3, 0, 60), 1);
    for (int i = 0; i < 60 && o.left() > 10; i++) due("copied", o.x().get(3, 0, i), (byte) valueAt(0, i));
    while (o.left() > 8) due("CAST", o.x().lay(2, 1, 0, 0), CAST);
    for (int s = 0; s < 4; s++) due("lose", o.x().lose(s), 60);
    for (int s = 0; s < 4; s++) due("LOST", o.x().lose(s), NULL);
    o.over();
  }

  private static int valueAt(int s, int i) { return (i + 1) * 0x01234567 ^ s * 0x5bd1e995; }

  /** A row that goes round in its SHEET: 42 times ten items, one on each time, in four SHEETS of one FORM. */
  private static void copiesAndWrites() {
    Counted o = begin("27 copy, 28 write: rows on and on").typed(0, "nsN;S");
    for (int s = 0; s < 4; s++) due("sheet", o.x().sheet(s, 1, 10), 10);
    for (int i = 0; i < 10; i++) due("lay", o.x().lay(0, 1, i, i), 1);
    int turned = 0;
    while (o.left() >= 7) {
      due("out of it", o.x().copy(0, 0, 1, 0, 10), 1);
      due("on by one", o.x().copy(0, 1, 0, 0, 9), 1);
      due("the first one comes last", o.x().copy(1, 0, 0, 9, 1), 1);
      turned++;
      due("the first one now", o.x().get(0, 1, 0), turned % 10);
      due("the last one now", o.x().get(0, 1, 9), (turned + 9) % 10);
      due("write", o.x().write(0, 2), 2);
      due("INDEX", o.x().copy(0, 1, 3, 0, 10), INDEX);
    }
    due("height 0", o.x().get(2, 1, 0), 4);
    while (o.left() > 0) due("no heights further on", o.x().get(2, 1, 2), 0);
    o.over();
  }

  private static void lostAndMadeAgain() {
    Counted o = begin("23 sheet, 24 lose: made and LOST, again and again");
    for (int n = 0; o.left() >= 8; n = (n + 7) % 61) {
      int s = n % 4;
      int form = n % 3;
      due("sheet", o.x().sheet(s, form, n), n);
      due("the last item", o.x().lay(s, form, n - 1, -1), n > 0 ? 1 : INDEX);
      due("the first item is new or the last", o.x().get(s, form, 0), n == 0 ? LEAST : n == 1 ? -1 : 0);
      due("a new one of sixty", o.x().sheet(s, form, 60), 60);
      due("nothing stays", o.x().get(s, form, n > 0 ? n - 1 : 0), 0);
      due("SIZE", o.x().sheet(s, form, -1), SIZE);
      due("lose", o.x().lose(s), 60);
      due("NULL", o.x().lay(s, form, 0, 0), NULL);
    }
    while (o.left() > 0) due("NULL", o.x().read(3), NULL);
    o.over();
  }

  /** The latest finding is told until another one comes, whatever else is called. */
  private static void findings() {
    Counted o = beginFull("29 count: the latest FINDING, up to the 512th call");
    due("none yet", o.x().count(8), 0);
    while (o.left() >= 14) {
      due("INDEX", o.x().lay(0, 0, 60, 1), INDEX);
      due("its number", o.x().count(8), 2);
      due("CAST", o.x().get(0, 1, 0), LEAST);
      due("BAD is none", o.x().get(4, 0, 0), LEAST);
      due("its number", o.x().count(8), 3);
      due("STORE", o.x().copy(0, 0, 1, 0, 0), STORE);
      due("FULL is none", o.x().type(0, 'n'), FULL);
      due("its number", o.x().count(8), 4);
      due("SIZE", o.x().sheet(3, 2, LEAST), SIZE);
      due("its number", o.x().count(8), 5);
      due("lose", o.x().lose(3), 60);
      due("NULL", o.x().write(0, 3), NULL);
      due("sheet", o.x().sheet(3, 2, 60), 60);
      due("its number", o.x().count(8), 1);
    }
    while (o.left() > 0) due("it stays", o.x().count(8), 1);
    o.over();
  }

  private static void nothingButRefusals() {
    Counted o = beginFull("refusals change nothing, some 370 of them");
    long was = o.x().digest();
    while (o.left() >= 30) {
      for (int text : new int[] {-1, 2, LEAST}) due("type", o.x().type(text, 'n'), -2);
      for (int text = 0; text < 2; text++) due("type", o.x().type(text, 'n'), FULL);
      for (int v : new int[] {-1, 2}) due("wipe, undo, fault", o.x().wipe(v) + o.x().undo(v) + o.x().fault(v), -6);
      due("set", o.x().set(1, 17), -2);
      due("height, stone, behind", o.x().height(13, 0) + o.x().stone(0, 8, 0) + o.x().behind(0, 4), -6);
      due("lean", o.x().lean(0, 8), -1002);
      due("turn, first", o.x().turn(12, 0) + o.x().first(2), -4);
      due("mend, open, sides", o.x().mend(3) + o.x().open(9, 0) + o.x().sides(4, 0), -6);
      due("seen", o.x().seen(0, 0, 0), FULL);
      due("read, who", o.x().read(4) + o.x().who(3), -4);
      due("frost", o.x().frost(17, 0), LONG_BAD);
      due("years", o.x().years(0, 0, 0), -2);
      due("sheet, lose", o.x().sheet(0, 0, 61) + o.x().lose(4), -4);
      due("get", o.x().get(0, 3, 0), LEAST);
    }
    while (o.left() > 1) due("write", o.x().write(13, 0), -2);
    due("the 512th call", o.x().digest(), was);
    o.over();
  }

  /** A digest changes nothing, and the 512th one is the same. */
  private static void digests() {
    Counted o = beginFull("30 digest: of a full object, up to the 512th call");
    long first = o.x().digest();
    while (o.left() > 0) due("digest", o.x().digest(), first);
    o.over();
    Counted none = begin("30 digest: of a new object, up to the 512th call");
    long empty = none.x().digest();
    due("another one", empty == first ? 1 : 0, 0);
    while (none.left() > 0) due("digest", none.x().digest(), empty);
    none.over();
  }

  /** Two objects know nothing of each other, call by call. */
  private static void sideBySide() {
    Counted one = beginFull("1 a new object, beside a full one");
    Counted other = begin(run);
    while (one.left() >= 6) {
      one.x().undo(0);
      due("no wall here", other.x().count(2), 0);
      one.x().undo(1);
      due("no turns here", other.x().count(3), 0);
      due("a sheet there", one.x().lay(0, 0, 0, one.left()), 1);
      due("none here", other.x().lay(0, 0, 0, 1), NULL);
      due("no finding there", one.x().count(8), 0);
      due("one here", other.x().count(8), 1);
      one.x().seen(0, 0, 0);
      due("nothing seen here", other.x().count(4), 0);
      one.x().set(2, 9);
      due("no push here", other.x().count(7), 0);
    }
    while (one.left() > 0) due("still empty", one.x().undo(1), NOT);
    while (other.left() > 0) due("still new", other.x().highest(), -1);
    one.over();
    other.over();
  }
}
