import java.math.BigInteger;

/** The edges of promises 17 to 22: what was seen, and by whom it came so; frost, and years by a seed. */
public final class EdgeFateTests {
  private static final int NONE = Edge.NONE, BAD = Edge.BAD, FULL = Edge.FULL, NULL = Edge.NULL;
  private static final int ALL_TWELVE = 4095;

  public static void main(String[] args) {
    seen();
    forget();
    read();
    readAsLong();
    who();
    whoNeverSo();
    whoInTurn();
    frost();
    frostInLowestTerms();
    yearsNumbers();
    years();
    lots();
    Edge.end();
  }

  private static Edge edge(String promise, String sentence) { return Edge.edge(promise, sentence); }
  private static Edge middling(String promise, String sentence) { return Edge.middling(promise, sentence); }
  private static Edge full(String promise, String sentence) { return Edge.full(promise, sentence); }

  // ---- SEEN

  private static void seen() {
    String p = "17 seen";
    middling(p, "TURNS are 0 to 12").bounds("seen(@,0,0)", 0, 12, BAD);
    middling(p, "a COLUMN is 0 to 7").bounds("seen(0,@,0)", 0, 7, BAD);
    middling(p, "so high is 0 to 16").bounds("seen(0,0,@)", 0, 16, BAD);
    edge(p, "all three on a new object").bounds("seen(@,7,16)", 0, 12, BAD).bounds("seen(12,@,16)", 0, 7, BAD)
        .bounds("seen(12,7,@)", 0, 16, BAD);
    edge(p, "the least, the most, though there are no such ones").is("seen(0,0,0) seen(12,7,16) count(4)", 1, 2, 2);
    edge(p, "8 at most: the eighth").then(" seen(0,0,0)".repeat(7)).is("seen(1,1,1) count(4)", 8, 8);
    edge(p, "FULL: a ninth").then(" seen(0,0,0)".repeat(8)).refuses("seen(0,0,0)", FULL).refuses("seen(12,7,16)", FULL);
    full(p, "FULL, where all is full").refuses("seen(0,0,0)", FULL);
    full(p, "BAD ahead of FULL: TURNS").refuses("seen(13,0,0)", BAD).refuses("seen(-1,0,0)", BAD);
    full(p, "BAD ahead of FULL: a COLUMN").refuses("seen(0,8,0)", BAD).refuses("seen(0,-1,0)", BAD);
    full(p, "BAD ahead of FULL: so high").refuses("seen(0,0,17)", BAD).refuses("seen(0,0,-1)", BAD);
    full(p, "room again behind forget").then("forget()").is("seen(0,0,0)", 1);
    edge(p, "the same again is one more").is("seen(1,1,1) seen(1,1,1)", 1, 2);
  }

  private static void forget() {
    String p = "18 forget";
    edge(p, "none").is("forget() count(4)", 0, 0);
    edge(p, "one").then("seen(0,0,0)").is("forget() count(4) forget()", 1, 0, 0);
    full(p, "all eight").is("forget() count(4) forget()", 8, 0, 0);
    edge(p, "they do not count any more").wall("n").turns("n0").then("seen(0,0,16) forget()").is("who(0)", 1);
    edge(p, "a new one is the only one").wall("n").turns("n0").then("seen(0,0,16) forget() seen(1,0,1)").is("who(1) count(4)", 1, 1);
    edge(p, "those behind more TURNS than there are do not count any more").wall("n").turns("n0")
        .then(" seen(12,7,16)".repeat(8) + " forget()").is("who(0)", 1).then("seen(1,0,2)").is("who(0) who(1) who(2)", 1, 0, 0);
    middling(p, "all else is as it was").then("forget()").is("count(0) count(1) count(2) count(3) count(8)", 3, 2, 6, 11, 2);
  }

  /** A sheet of a form with these items, on an object with some seen already. */
  private static Edge withSheet(String sentence, int already, int form, int... items) {
    Edge x = edge("19 read", sentence).then(" count(0)" + " seen(0,0,0)".repeat(already)).then("sheet(1," + form + "," + items.length + ")");
    for (int i = 0; i < items.length; i++) x.then("lay(1," + form + "," + i + "," + items[i] + ")");
    return x;
  }

  private static void read() {
    String p = "19 read";
    middling(p, "a SHEET: one too small, one too large").bounds("read(@)", 0, 3, BAD);
    edge(p, "BAD ahead of NULL: no such SHEET").bounds("read(@)", 0, 3, BAD);
    full(p, "BAD where all is full").bounds("read(@)", 0, 3, BAD);
    middling(p, "NULL: the SHEET is LOST").refuses("read(3)", NULL);
    edge(p, "NULL: all SHEETS are LOST at first").refuses("read(0)", NULL).refuses("read(3)", NULL);
    edge(p, "NULL ahead of there being no room").then(" seen(0,0,0)".repeat(8)).refuses("read(0)", NULL);
    middling(p, "NULL: it was lost").then("lose(0)").refuses("read(0)", NULL);
    withSheet("as many as are whole: no items", 0, 0).is("read(1) count(4)", 0, 0);
    withSheet("as many as are whole: two items", 0, 0, 1, 1).is("read(1) count(4)", 0, 0);
    withSheet("as many as are whole: three items", 0, 0, 1, 1, 1).is("read(1) count(4)", 1, 1);
    withSheet("as many as are whole: five items", 0, 0, 1, 1, 1, 1, 1).is("read(1) count(4)", 1, 1);
    withSheet("as many as are whole: six items", 0, 0, 1, 1, 1, 1, 1, 1).is("read(1) count(4)", 2, 2);
    withSheet("room for eight: seven", 0, 0, new int[21]).is("read(1) count(4)", 7, 7);
    withSheet("room for eight: eight", 0, 0, new int[24]).is("read(1) count(4)", 8, 8);
    withSheet("room for eight: nine", 0, 0, new int[27]).is("read(1) count(4)", 8, 8);
    withSheet("room for eight: twenty", 0, 0, new int[60]).is("read(1) count(4)", 8, 8);
    withSheet("room for one", 7, 0, 1, 1, 1, 2, 2, 2).is("read(1) count(4)", 1, 8);
    withSheet("room for two", 6, 0, 1, 1, 1, 2, 2, 2).is("read(1) count(4)", 2, 8);
    withSheet("room for none", 8, 0, 1, 1, 1).is("read(1) count(4)", 0, 8);
    withSheet("room for none, and it may not be", 8, 0, 13, 8, 17).is("read(1) count(4) count(8)", 0, 8, 0);
    withSheet("once more: they come behind", 0, 0, 1, 1, 1).is("read(1) read(1) count(4)", 1, 1, 2);
    withSheet("of shorts", 0, 1, 1, 1, 1).is("read(1)", 1);
    withSheet("of ints", 0, 2, 1, 1, 1).is("read(1)", 1);
    withSheet("it is turns, column, height in this order", 0, 0, 12, 7, 16).is("read(1)", 1);
    withSheet("the SHEET is as it was", 0, 0, 1, 2, 3).then("read(1)").is("get(1,0,0) get(1,0,2) lose(1)", 1, 3, 3);
    edge(p, "what came counts").wall("n").turns("n0").then("sheet(0,0,3) lay(0,0,0,1) lay(0,0,2,1) read(0)").is("who(0) who(1)", 0, 1);
  }

  private static void readAsLong() {
    int[][] not = {{13, 0, 0}, {-1, 0, 0}, {0, 8, 0}, {0, -1, 0}, {0, 0, 17}, {0, 0, -1}};
    for (int[] v : not) {
      String told = v[0] + " " + v[1] + " " + v[2];
      withSheet("as long as each may be, not the first: " + told, 0, 0, v[0], v[1], v[2], 1, 1, 1).is("read(1) count(4)", 0, 0);
      withSheet("as long as each may be, the first, not the second: " + told, 0, 1, 1, 1, 1, v[0], v[1], v[2], 2, 2, 2)
          .is("read(1) count(4)", 1, 1);
    }
    withSheet("as long as each may be: the least", 0, 2, 0, 0, 0).is("read(1)", 1);
    withSheet("as long as each may be: the farthest", 0, 2, Edge.MAX, 0, 0).is("read(1)", 0);
    withSheet("as long as each may be: the farthest below", 0, 2, 0, 0, Edge.MIN).is("read(1)", 0);
    withSheet("a byte has its sign: 255 is -1", 0, 0, 255, 0, 0).is("read(1)", 0);
    withSheet("what is not whole is not looked at", 0, 0, 1, 1, 1, 99, 99).is("read(1)", 1);
    withSheet("that it stops is no refusal", 0, 0, 99, 0, 0).is("read(1) count(8)", 0, 0);
  }

  // ---- PULLED, LAID, FLIPPED

  private static void who() {
    String p = "20 who";
    middling(p, "what: one too small, one too large").bounds("who(@)", 0, 2, BAD);
    edge(p, "what on a new object").bounds("who(@)", 0, 2, BAD);
    full(p, "what, where all is full").bounds("who(@)", 0, 2, BAD);
    edge(p, "no TURNS").wall("n").is("who(0) who(1) who(2)", 0, 0, 0);
    edge(p, "no TURNS, and it is so").wall("n").then("seen(0,0,1)").is("who(0) who(1) who(2)", 0, 0, 0);
    edge(p, "nothing SEEN: each TURN").wall("n").turns("n0;s0").is("who(0) who(1) who(2)", 3, 3, 3);
    edge(p, "nothing SEEN: each of twelve").turns("n0;".repeat(11) + "n0").is("who(0) who(1) who(2)", ALL_TWELVE, ALL_TWELVE, ALL_TWELVE);
    edge(p, "behind 0 TURNS it is so: each TURN").wall("n").turns("n0").then("seen(0,0,1)").is("who(0) who(1) who(2)", 1, 1, 1);
    edge(p, "behind 0 TURNS it is not so").wall("n").turns("n0").then("seen(0,0,2)").is("who(0) who(1) who(2)", 0, 0, 0);
    edge(p, "the twelfth laid nothing, or was by the other").wall("n").turns("s7;".repeat(11) + "s0").then("seen(12,0,1)")
        .is("who(0) who(1) who(2)", 0, 2048, 2048);
    edge(p, "the first took nothing").wall("s;").turns("-0n1;s1").then("seen(2,0,1) seen(2,1,2)").is("who(0) who(1) who(2)", 1, 0, 0);
    edge(p, "the last took nothing").wall("n;n").turns("n7;-0s1").then("seen(2,0,1) seen(2,1,2)").is("who(0) who(1) who(2)", 2, 0, 0);
    edge(p, "taken nothing, there is no room").wall("nnnnnnns").turns("-0N0").then("seen(1,0,8)").is("who(0) who(1) who(2)", 1, 0, 1);
    edge(p, "by the other: it takes and lays otherwise").wall("n;s").turns("-0s1n1").then("seen(1,0,0) seen(1,1,2)")
        .is("who(0) who(1) who(2)", 0, 0, 1);
    edge(p, "16 high").wall("NNNNNNNN").turns("s0").then("seen(1,0,16)").is("who(0) who(1) who(2)", 1, 1, 1);
    edge(p, "0 high").wall("s;").turns("-0n0").then("seen(1,0,0)").is("who(0) who(1) who(2)", 0, 1, 0);
    edge(p, "the eighth COLUMN").wall(";;;;;;;").turns("n7").then("seen(1,7,0)").is("who(0) who(1) who(2)", 0, 1, 1);
    edge(p, "it is as it was behind it").wall("s").turns("-0n0").then("seen(1,0,1) seen(1,0,0)")
        .is("who(0) who(1) who(2) height(1,0) count(4)", 0, 0, 0, 1, 2);
  }

  private static void whoNeverSo() {
    String p = "20 who";
    edge(p, "behind as many TURNS as there are").wall("n").turns("s0").then("seen(1,0,1)").is("who(0) who(1) who(2)", 1, 1, 0);
    edge(p, "behind more TURNS than there are it never is so").wall("n").turns("s0").then("seen(2,0,1)").is("who(0) who(1) who(2)", 0, 0, 0);
    edge(p, "behind twelve of eleven").wall("n").turns("s7;".repeat(10) + "s7").then("seen(12,0,1)").is("who(0) who(1) who(2)", 0, 0, 0);
    edge(p, "of the last COLUMN there is").wall("n;").turns("s0").then("seen(1,1,0)").is("who(0) who(1) who(2)", 1, 1, 1);
    edge(p, "of a COLUMN that there is not it never is so").wall("n;").turns("s0").then("seen(1,2,0)").is("who(0) who(1) who(2)", 0, 0, 0);
    edge(p, "of the eighth of seven").wall(";;;;;;").turns("s0").then("seen(0,7,0)").is("who(0) who(1) who(2)", 0, 0, 0);
    edge(p, "of no WALL").turns("s0").then("seen(0,0,0)").is("who(0) who(1) who(2)", 0, 0, 0);
    edge(p, "all that was SEEN: the eighth is not so").wall("n").turns("s0").then(" seen(1,0,1)".repeat(7) + " seen(1,0,2)")
        .is("who(0) who(1) who(2)", 0, 0, 0);
    edge(p, "all that was SEEN: the first is not so").wall("n").turns("s0").then("seen(1,0,2)" + " seen(1,0,1)".repeat(7))
        .is("who(0) who(1) who(2)", 0, 0, 0);
    edge(p, "all that was SEEN: all eight are so").wall("n").turns("s0").then(" seen(1,0,1)".repeat(8)).is("who(0) who(1) who(2)", 1, 1, 0);
  }

  private static void whoInTurn() {
    String p = "20 who";
    edge(p, "had it alone: not both").wall(";").turns("n0;s0").then("seen(2,0,0)").is("who(0) who(1) who(2)", 0, 0, 0);
    edge(p, "had it alone: either").wall(";").turns("n0;s0").then("seen(2,0,1)").is("who(0) who(1) who(2)", 0, 3, 3);
    edge(p, "by the other alone: the ones behind it are by whom they were").wall(";").turns("s0;s1").then("seen(2,0,1) seen(2,1,1)")
        .is("who(0) who(1) who(2)", 0, 0, 1);
    edge(p, "who BEGINS").wall(";").turns("n0").then("set(0,1) seen(1,0,1)").is("who(0) who(1) who(2)", 0, 0, 1);
    edge(p, "what comes behind goes on from it").wall("s").turns("-0n0;-0s0").then("seen(2,0,2)").is("who(0) who(1) who(2)", 3, 0, 1);
  }

  // ---- FROST

  private static void frost() {
    String p = "21 frost";
    middling(p, "c is 0 to 16").bounds("frost(@,0)", 0, 16, Edge.LONG_BAD).bounds("frost(@,1)", 0, 16, Edge.LONG_BAD);
    middling(p, "what: one too small, one too large").bounds("frost(5,@)", 0, 1, Edge.LONG_BAD);
    edge(p, "both on a new object").bounds("frost(@,0)", 0, 16, Edge.LONG_BAD).bounds("frost(0,@)", 0, 1, Edge.LONG_BAD);
    full(p, "both where all is full").bounds("frost(@,1)", 0, 16, Edge.LONG_BAD).bounds("frost(16,@)", 0, 1, Edge.LONG_BAD);
    frozen("no COLUMNS: it STANDS", "", 5, 1, 1);
    frozen("all COLUMNS empty: it STANDS", ";;;;;;;", 5, 1, 1);
    frozen("c 0: it STANDS as it is", "n", 0, 1, 1);
    frozen("c 0: it does not STAND as it is (0 by 1)", "nn", 0, 0, 1);
    frozen("c 1", "nn", 1, 1, 16);
    frozen("c 15", "nn", 15, 15, 16);
    frozen("c 16: each loses one, and it STANDS", "nn", 16, 1, 1);
    frozen("c 16: each loses one, and it does not STAND", "n;nn", 16, 1, 1);
    frozen("c 16: none STANDS any more", "nnn", 16, 0, 1);
    frozen("the uppermost one, a large one", "nN", 3, 3, 16);
    frozen("the uppermost one, a small one below a large one's HEIGHT", "Nn", 3, 0, 1);
    frozen("an empty one loses none", "nn;", 1, 1, 16);
    frozen("one alone", "n", 7, 1, 1);
    edge(p, "behind all TURNS").wall("n").turns("n0").then("set(1,1)").is("frost(4,0) frost(4,1) count(5)", 1, 4, 2);
    edge(p, "0 by 1 at any c").wall("nnnnnn").is("frost(1,0) frost(1,1) frost(16,0) frost(16,1)", 0, 1, 0, 1);
  }

  /** With a BOND of 1, so that a wall of one column stands if it is no higher than 1. */
  private static void frozen(String sentence, String wall, int c, long above, long below) {
    edge("21 frost", sentence + " (" + wall + ")").wall(wall).then("set(1,1)")
        .is("frost(" + c + ",0) frost(" + c + ",1)", above, below);
  }

  private static void frostInLowestTerms() {
    int[] below = {1, 16, 8, 16, 4, 16, 8, 16, 2, 16, 8, 16, 4, 16, 8, 16, 1};
    for (int c = 0; c <= 16; c++) frozen("lowest terms of " + c + " sixteenths", "nn", c, c * below[c] / 16, below[c]);
    frozen("by itself: two", "nn;;nn", 5, 25, 256);
    frozen("by itself: two, in lowest terms", "nn;;nn", 6, 9, 64);
    frozen("by itself: one of them STANDS anyway", "nn;;n", 6, 3, 8);
    edge("21 frost", "by itself: the first must keep its own, the second lose it").wall("n;nn").then("set(1,0)")
        .is("frost(4,0) frost(4,1)", 3, 16);
    edge("21 frost", "by itself: the first must lose its own, the second keep it").wall("nn;n").then("set(1,0)")
        .is("frost(12,0) frost(12,1)", 3, 16);
    for (int columns = 1; columns <= 4; columns++) {
      String wall = "nn;;".repeat(columns).substring(0, 4 * columns - 2);
      frozen("all of " + columns + " by one sixteenth", wall, 1, 1, 1L << 4 * columns);
    }
    String eight = "nn;nn;nn;nn;nn;nn;nn;nn";
    edge("21 frost", "all of eight, each by one sixteenth: more than an int").wall(eight).then("set(3,1)")
        .is("frost(1,0) frost(1,1)", 1, 1L << 32);
    edge("21 frost", "all of eight, each by fifteen sixteenths").wall(eight).then("set(3,1)")
        .is("frost(15,0) frost(15,1)", 2562890625L, 1L << 32);
    edge("21 frost", "all of eight, surely").wall(eight).then("set(3,1)").is("frost(16,0) frost(16,1)", 1, 1);
    edge("21 frost", "all of eight, surely not").wall(eight).then("set(3,1)").is("frost(0,0) frost(0,1)", 0, 1);
  }

  // ---- YEARS

  private static void yearsNumbers() {
    String p = "22 years";
    middling(p, "so many more is 1 to 40").bounds("years(7,@,0)", 1, 40, BAD).bounds("years(7,@,-1)", 1, 40, BAD);
    middling(p, "a COLUMN: NONE, 0 to 2").bounds("years(7,9,@)", -1, 2, BAD);
    full(p, "both where all is full").bounds("years(7,@,7)", 1, 40, BAD).bounds("years(7,9,@)", -1, 7, BAD);
    edge(p, "a COLUMN: the only one").wall("n").bounds("years(0,1,@)", -1, 0, BAD);
    edge(p, "BAD: there are no COLUMNS").refuses("years(0,1,-1)", BAD).refuses("years(0,1,0)", BAD).refuses("years(0,40,-1)", BAD)
        .refuses("years(0,0,-1)", BAD).refuses("years(0,41,-1)", BAD).refuses("years(0,1,-2)", BAD);
    edge(p, "BAD: there are no COLUMNS, but TURNS").turns("n0").refuses("years(0,1,-1)", BAD);
    edge(p, "BAD: there are no COLUMNS with a FAULT").wall("n;x").refuses("years(0,1,-1)", BAD);
    for (int seed : new int[] {Edge.MIN, -1, 0, 1, Edge.MAX}) {
      Edge x = edge(p, "any SEED: " + seed).wall("n");
      x.due("its HEIGHT is not refused", x.ask("years(" + seed + ",1,0)") >= 0 ? 1 : 0, 1);
    }
  }

  private static void years() {
    String p = "22 years";
    edge(p, "none behind which it does not STAND").wall("n").then("set(1,16)").is("years(0,40,-1)", 0);
    edge(p, "one, behind which it does not STAND").wall("n").then("set(1,0)").is("years(0,1,-1)", 1);
    edge(p, "all forty, behind which it does not STAND").wall("nsnsnsns").is("years(0,40,-1)", 40);
    edge(p, "with 0 (SEED 0): the other one's").wall("nS").is("years(0,1,0)", 1);
    edge(p, "with 0: not his own").wall("N").is("years(0,1,0)", 2).then("set(0,1)").is("years(0,1,0)", 0);
    edge(p, "with 1, 2, 3 (SEEDS 2, 1, 3) a small one").wall("n").is("years(2,1,0) years(1,1,0) years(3,1,0)", 2, 2, 2);
    edge(p, "a small one of his own").wall("nnnnnn").then("set(1,16)").is("years(2,1,-1)", 1).then("set(0,1)").is("years(2,1,-1)", 0);
    edge(p, "room for one").wall("nsnsnsn").is("years(2,1,0) years(2,2,0)", 8, 8);
    edge(p, "no room").wall("NSNSNSNS").is("years(2,1,0) years(1,1,0) years(3,1,0)", 16, 16, 16);
    edge(p, "all is as it was behind it").wall("n").turns("s0").then("years(0,40,0) years(0,40,-1)")
        .is("height(1,0) count(5) count(1) years(0,1,0)", 1, 1, 1, 0);
    edge(p, "who would be next: behind one").wall("n").turns("s7").is("years(0,1,0)", 0);
    edge(p, "who would be next: behind two").wall("n").turns("s7;n7").is("years(0,1,0)", 1);
    edge(p, "who would be next: behind twelve").wall("n").turns("s7;".repeat(11) + "n7").is("years(0,1,0)", 1);
    edge(p, "who would be next: the SOUTH beginning").wall("n").then("set(0,1)").is("years(0,1,0)", 0);
    edge(p, "with 0: an empty one has none").wall(";").is("years(0,1,0) years(0,1,1)", 0, 0);
  }

  /** The numbers that wrap: seeds at their edges, and runs of them, against numbers without any limit. */
  private static void lots() {
    String p = "22 years, LOTS";
    int[] seeds = {0, 1, -1, 7, 65535, 65536, -65536, 32767 << 16, Edge.MIN, Edge.MAX, Edge.MIN + 1, Edge.MAX - 1, 1103515245,
        -1103515245, 123456789};
    String[] walls = {"n", "s;nsn", "n;;s", ";nnn;;sss;n", "n;s;n;s;n;s;n", "N;;nn;S;s;ns;;nnnnnnn"};
    for (int seed : seeds) {
      for (String wall : walls) {
        Edge x = edge(p, "SEED " + seed + " wraps, " + wall).wall(wall);
        for (int n : new int[] {1, 2, 3, 39, 40}) {
          long[] due = heights(seed, n, wall, 0);
          for (int c = 0; c < due.length; c++) x.is("years(" + seed + "," + n + "," + c + ")", due[c]);
        }
      }
    }
    edge(p, "upper 16 bits as a number from 0 on").wall(";;").is("years(1,1,0) years(1,1,1) years(1,1,2)", heights(1, 1, ";;", 0));
  }

  private static final BigInteger WRAP = BigInteger.ONE.shiftLeft(32);

  private static long[] heights(int firstSeed, int n, String wall, int brother) {
    String[] columns = wall.split(";", -1);
    BigInteger seed = BigInteger.valueOf(firstSeed).mod(WRAP);
    for (int year = 0; year < n; year++) {
      String own = (brother + year) % 2 == 0 ? "n" : "s";
      seed = next(seed);
      int c = seed.shiftRight(16).mod(BigInteger.valueOf(columns.length)).intValue();
      seed = next(seed);
      int lot = seed.shiftRight(16).mod(BigInteger.valueOf(4)).intValue();
      String of = columns[c];
      boolean others = !of.isEmpty() && !of.substring(of.length() - 1).equalsIgnoreCase(own);
      if (lot == 0 && others) columns[c] = of.substring(0, of.length() - 1);
      if (lot != 0 && of.length() < 8) columns[c] = of + own;
    }
    long[] all = new long[columns.length];
    for (int c = 0; c < all.length; c++) all[c] = columns[c].chars().map(b -> Character.isUpperCase(b) ? 2 : 1).sum();
    return all;
  }

  private static BigInteger next(BigInteger seed) {
    return seed.multiply(BigInteger.valueOf(1103515245)).add(BigInteger.valueOf(12345)).mod(WRAP);
  }
}
