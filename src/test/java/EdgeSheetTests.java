import java.math.BigInteger;

/** The edges of promises 23 to 30: the sheets and their findings, the counts, the digest. A test for each sentence. */
public final class EdgeSheetTests {
  private static final int NONE = Edge.NONE, BAD = Edge.BAD, FULL = Edge.FULL;
  private static final int NULL = Edge.NULL, INDEX = Edge.INDEX, CAST = Edge.CAST, STORE = Edge.STORE, SIZE = Edge.SIZE;
  private static final int MIN = Edge.MIN, MAX = Edge.MAX;

  public static void main(String[] args) {
    sheet();
    lose();
    lay();
    lowestBits();
    get();
    copy();
    copyRefused();
    write();
    count();
    findings();
    digest();
    Edge.end();
  }

  private static Edge edge(String promise, String sentence) { return Edge.edge(promise, sentence); }
  private static Edge middling(String promise, String sentence) { return Edge.middling(promise, sentence); }
  private static Edge full(String promise, String sentence) { return Edge.full(promise, sentence); }

  private static void sheet() {
    String p = "23 sheet";
    middling(p, "a SHEET: one too small, one too large").bounds("sheet(@,0,5)", 0, 3, BAD);
    middling(p, "a FORM: one too small, one too large").bounds("sheet(0,@,5)", 0, 2, BAD).bounds("sheet(3,@,5)", 0, 2, BAD);
    middling(p, "0 to 60 items: above 60").refuses("sheet(0,1,61)", BAD).refuses("sheet(3,1,61)", BAD).refuses("sheet(0,1,MAX)", BAD);
    middling(p, "SIZE: below 0").refuses("sheet(0,1,-1)", SIZE).refuses("sheet(3,1,-1)", SIZE).refuses("sheet(0,1,MIN)", SIZE);
    edge(p, "all three on a new object").bounds("sheet(@,2,60)", 0, 3, BAD).bounds("sheet(3,@,60)", 0, 2, BAD)
        .refuses("sheet(0,0,61)", BAD).refuses("sheet(0,0,-1)", SIZE);
    full(p, "all three where all is full").bounds("sheet(@,0,60)", 0, 3, BAD).bounds("sheet(0,@,60)", 0, 2, BAD)
        .refuses("sheet(0,0,61)", BAD).refuses("sheet(0,0,-1)", SIZE);
    middling(p, "BAD ahead of SIZE: no such SHEET").refuses("sheet(4,0,-1)", BAD).refuses("sheet(-1,0,-1)", BAD);
    middling(p, "BAD ahead of SIZE: no such FORM").refuses("sheet(0,3,-1)", BAD).refuses("sheet(0,-1,-1)", BAD);
    edge(p, "0 items, 60 items").is("sheet(0,0,0) sheet(1,0,60) lose(0) lose(1)", 0, 60, 0, 60);
    edge(p, "0 items: there is not even the first").then("sheet(0,0,0)").is("get(0,0,0) count(8)", MIN, 2);
    edge(p, "n items: the last one is there, none behind it").then("sheet(0,0,7)").is("lay(0,0,6,1) lay(0,0,7,1)", 1, INDEX);
    edge(p, "60 items: the last one is there").then("sheet(0,2,60)").is("lay(0,2,59,9) lay(0,2,60,9) get(0,2,59)", 1, INDEX, 9);
    for (int form = 0; form < 3; form++) {
      String f = form + ",";
      edge(p, "0 at first, of form " + form).then("sheet(0," + f + "60)").is("get(0," + f + "0) get(0," + f + "30) get(0," + f + "59)", 0, 0, 0);
      edge(p, "a new row: 0 again, of form " + form).then("sheet(0," + f + "60) lay(0," + f + "0,9) lay(0," + f + "59,9) sheet(0," + f + "60)")
          .is("get(0," + f + "0) get(0," + f + "59)", 0, 0);
      edge(p, "a new row behind lose: 0 again, of form " + form).then("sheet(0," + f + "3) lay(0," + f + "1,9) lose(0) sheet(0," + f + "3)")
          .is("get(0," + f + "1)", 0);
    }
    edge(p, "a new row, smaller, then larger: 0 again").then("sheet(0,0,9) lay(0,0,8,5) sheet(0,0,2) sheet(0,0,9)").is("get(0,0,8)", 0);
    edge(p, "a new FORM").then("sheet(0,0,2) sheet(0,1,2)").is("lay(0,0,0,1) lay(0,1,0,1)", CAST, 1);
    edge(p, "the other SHEETS are as they were").then("sheet(0,0,2) lay(0,0,1,7) sheet(1,0,2) sheet(3,0,2)").is("get(0,0,1) lose(2)", 7, NULL);
  }

  private static void lose() {
    String p = "24 lose";
    middling(p, "a SHEET: one too small, one too large").bounds("lose(@)", 0, 3, BAD);
    edge(p, "BAD ahead of NULL: no such SHEET").bounds("lose(@)", 0, 3, BAD);
    full(p, "BAD where all is full").bounds("lose(@)", 0, 3, BAD);
    middling(p, "NULL: it is LOST").refuses("lose(3)", NULL);
    edge(p, "NULL: all are LOST at first").refuses("lose(0)", NULL).refuses("lose(3)", NULL);
    middling(p, "NULL: it was lost").then("lose(0)").refuses("lose(0)", NULL);
    middling(p, "how many items it had").is("lose(0) lose(1) lose(2) lose(3)", 3, 6, 2, NULL);
    edge(p, "none, and it is no LOST one").then("sheet(0,0,0)").is("lose(0) lose(0)", 0, NULL);
    full(p, "all sixty").is("lose(0) lose(3)", 60, 60);
    edge(p, "it alone is LOST").then("sheet(0,0,1) sheet(1,0,1)").is("lose(0) lose(1)", 1, 1);
  }

  private static void lay() {
    String p = "25 lay";
    middling(p, "a SHEET: one too small, one too large").bounds("lay(@,0,0,1)", 0, 3, BAD);
    middling(p, "a FORM: one too small, one too large").bounds("lay(0,@,0,1)", 0, 2, BAD);
    middling(p, "INDEX: there is no such item").bounds("lay(0,0,@,1)", 0, 2, INDEX).bounds("lay(1,1,@,1)", 0, 5, INDEX)
        .bounds("lay(2,2,@,1)", 0, 1, INDEX);
    full(p, "INDEX, of sixty").bounds("lay(0,0,@,1)", 0, 59, INDEX).bounds("lay(3,2,@,1)", 0, 59, INDEX);
    edge(p, "INDEX, of none").then("sheet(0,0,0)").refuses("lay(0,0,0,1)", INDEX).refuses("lay(0,0,-1,1)", INDEX);
    edge(p, "INDEX, of one").then("sheet(0,0,1)").bounds("lay(0,0,@,1)", 0, 0, INDEX);
    middling(p, "NULL: it is LOST").refuses("lay(3,0,0,1)", NULL).refuses("lay(3,2,0,1)", NULL);
    middling(p, "CAST: it has another FORM").refuses("lay(0,1,0,1)", CAST).refuses("lay(0,2,0,1)", CAST).refuses("lay(1,0,0,1)", CAST)
        .refuses("lay(1,2,0,1)", CAST).refuses("lay(2,0,0,1)", CAST).refuses("lay(2,1,0,1)", CAST);
    edge(p, "BAD ahead of NULL: no such FORM").refuses("lay(0,3,0,1)", BAD).refuses("lay(0,-1,0,1)", BAD);
    edge(p, "BAD ahead of NULL: no such SHEET").refuses("lay(4,0,0,1)", BAD).refuses("lay(-1,0,0,1)", BAD);
    middling(p, "BAD ahead of CAST and INDEX: no such FORM").refuses("lay(0,3,9,1)", BAD).refuses("lay(0,-1,-1,1)", BAD);
    middling(p, "NULL ahead of INDEX").refuses("lay(3,0,-1,1)", NULL).refuses("lay(3,0,60,1)", NULL);
    middling(p, "NULL ahead of CAST: the FORM it had is gone").then("lose(0)").refuses("lay(0,1,0,1)", NULL);
    middling(p, "CAST ahead of INDEX").refuses("lay(0,1,3,1)", CAST).refuses("lay(0,1,-1,1)", CAST);
    edge(p, "that item alone").then("sheet(0,0,3)").is("lay(0,0,1,5) get(0,0,0) get(0,0,1) get(0,0,2)", 1, 0, 5, 0);
  }

  private static void lowestBits() {
    String p = "25 lay, the lowest bits with their sign";
    int[][] bytes = {{0, 0}, {1, 1}, {-1, -1}, {127, 127}, {128, -128}, {-128, -128}, {-129, 127}, {255, -1}, {256, 0}, {257, 1},
        {MAX, -1}, {MIN, 0}, {65408, -128}};
    int[][] shorts = {{0, 0}, {1, 1}, {-1, -1}, {128, 128}, {255, 255}, {32767, 32767}, {32768, -32768}, {-32768, -32768},
        {-32769, 32767}, {65535, -1}, {65536, 0}, {MAX, -1}, {MIN, 0}};
    int[][] ints = {{0, 0}, {-1, -1}, {128, 128}, {32768, 32768}, {65536, 65536}, {MAX, MAX}, {MIN + 1, MIN + 1}};
    int[][][] all = {bytes, shorts, ints};
    for (int form = 0; form < 3; form++) {
      for (int[] v : all[form]) {
        String at = "(0," + form + ",1";
        edge(p, v[0] + " in form " + form).then("sheet(0," + form + ",3)")
            .is("lay" + at + "," + v[0] + ") get" + at + ") get(0," + form + ",0) get(0," + form + ",2)", 1, v[1], 0, 0);
      }
    }
    edge(p, "the least int, and it is no refusal").then("sheet(0,2,1)").is("lay(0,2,0,MIN) get(0,2,0) count(8)", 1, MIN, 0);
  }

  private static void get() {
    String p = "26 get";
    middling(p, "a SHEET: BAD is the least int, and no FINDING").refuses("get(-1,0,0)", MIN).refuses("get(4,0,0)", MIN)
        .refuses("get(MAX,0,0)", MIN).refuses("get(MIN,0,0)", MIN);
    middling(p, "a FORM: BAD is the least int, and no FINDING").refuses("get(0,3,0)", MIN).refuses("get(0,-1,0)", MIN)
        .refuses("get(0,MAX,0)", MIN).refuses("get(0,MIN,0)", MIN);
    edge(p, "both on a new object").refuses("get(4,0,0)", MIN).refuses("get(-1,0,0)", MIN).refuses("get(0,3,0)", MIN).refuses("get(0,-1,0)", MIN);
    middling(p, "NULL").refuses("get(3,0,0)", MIN, 1).refuses("get(3,2,0)", MIN, 1);
    edge(p, "NULL: all SHEETS are LOST at first").refuses("get(0,0,0)", MIN, 1).refuses("get(3,2,59)", MIN, 1);
    middling(p, "CAST").refuses("get(0,1,0)", MIN, 3).refuses("get(0,2,0)", MIN, 3).refuses("get(1,0,0)", MIN, 3)
        .refuses("get(2,1,0)", MIN, 3);
    middling(p, "INDEX").then("lay(0,0,0,1)").is("lose(3) count(8)", NULL, 1).refuses("get(0,0,3)", MIN, 2).refuses("get(0,0,-1)", MIN, 2)
        .refuses("get(0,0,MAX)", MIN, 2).refuses("get(0,0,MIN)", MIN, 2).refuses("get(1,1,6)", MIN, 2);
    edge(p, "INDEX, of none").then("sheet(0,0,0)").refuses("get(0,0,0)", MIN, 2);
    full(p, "INDEX, of sixty").is("get(3,2,59) get(0,0,59)", MAX, -1).refuses("get(3,2,60)", MIN, 2).refuses("get(0,0,60)", MIN, 2);
    edge(p, "NULL ahead of INDEX").refuses("get(0,0,-1)", MIN, 1);
    middling(p, "CAST ahead of INDEX").refuses("get(0,1,3)", MIN, 3).refuses("get(0,1,-1)", MIN, 3);
    edge(p, "BAD ahead of NULL").refuses("get(0,3,-1)", MIN, 0).refuses("get(4,0,-1)", MIN, 0);
    middling(p, "the first, the last").then("lay(0,0,0,-9) lay(0,0,2,9)").is("get(0,0,0) get(0,0,1) get(0,0,2)", -9, 5, 9);
  }

  /** SHEET 0 holds the bytes 1 to 5, SHEET 1 three bytes, SHEET 2 three ints; SHEET 3 is LOST. */
  private static Edge rows(String sentence) {
    return edge("27 copy", sentence).then("sheet(0,0,5) lay(0,0,0,1) lay(0,0,1,2) lay(0,0,2,3) lay(0,0,3,4) lay(0,0,4,5) "
        + "sheet(1,0,3) sheet(2,2,3) lay(2,2,0,9)");
  }

  private static Edge hold(Edge x, int s, int... items) {
    for (int i = 0; i < items.length; i++) x.is("get(" + s + ",0," + i + ")", items[i]);
    return x;
  }

  private static void copy() {
    hold(rows("none, from the first to the first").is("copy(0,0,1,0,0)", 1), 1, 0, 0, 0);
    hold(rows("none, from behind the last").is("copy(0,5,1,0,0)", 1), 1, 0, 0, 0);
    hold(rows("none, to behind the last").is("copy(0,0,1,3,0)", 1), 1, 0, 0, 0);
    hold(rows("one: the first to the last").is("copy(0,0,1,2,1)", 1), 1, 0, 0, 1);
    hold(rows("one: the last to the first").is("copy(0,4,1,0,1)", 1), 1, 5, 0, 0);
    hold(rows("as many as there is room for").is("copy(0,2,1,0,3)", 1), 1, 3, 4, 5);
    hold(rows("all that there are").then("sheet(3,0,5)").is("copy(0,0,3,0,5)", 1), 3, 1, 2, 3, 4, 5);
    hold(rows("all, to itself").is("copy(0,0,0,0,5)", 1), 0, 1, 2, 3, 4, 5);
    hold(rows("to itself, up, as they were").is("copy(0,0,0,1,4)", 1), 0, 1, 1, 2, 3, 4);
    hold(rows("to itself, down, as they were").is("copy(0,1,0,0,4)", 1), 0, 2, 3, 4, 5, 5);
    hold(rows("to itself, by two, as they were").is("copy(0,0,0,2,3)", 1), 0, 1, 2, 1, 2, 3);
    hold(rows("the SHEET they come from is as it was").is("copy(0,1,1,0,3)", 1), 0, 1, 2, 3, 4, 5);
    rows("of ints").then("sheet(3,2,2)").is("copy(2,0,3,1,1) get(3,2,1)", 1, 9);
    rows("none, between SHEETS of no items").then("sheet(2,1,0) sheet(3,1,0)").is("copy(2,0,3,0,0)", 1);
    full("27 copy", "all sixty").is("copy(0,0,0,0,60) get(0,0,59)", 1, -1).is("copy(0,59,0,0,1) get(0,0,0)", 1, -1);
    full("27 copy", "sixty, of ints").is("copy(3,0,2,0,60) get(2,2,59) get(2,2,58)", 1, MAX, 0);
  }

  private static void copyRefused() {
    rows("a SHEET: one too small, one too large, from").bounds("copy(@,0,0,0,1)", 0, 3, BAD);
    rows("a SHEET: one too small, one too large, to").bounds("copy(0,0,@,0,1)", 0, 3, BAD);
    edge("27 copy", "both on a new object").bounds("copy(@,0,0,0,1)", 0, 3, BAD).bounds("copy(0,0,@,0,1)", 0, 3, BAD);
    rows("NULL: s").refuses("copy(3,0,0,0,1)", NULL);
    rows("NULL: t").refuses("copy(0,0,3,0,1)", NULL);
    rows("NULL: s and t").refuses("copy(3,0,3,0,0)", NULL);
    rows("STORE: unlike FORMS").refuses("copy(0,0,2,0,1)", STORE).refuses("copy(2,0,0,0,1)", STORE);
    rows("STORE: bytes and shorts, shorts and ints").then("sheet(3,1,3)").refuses("copy(0,0,3,0,1)", STORE).refuses("copy(3,0,2,0,1)", STORE);
    rows("STORE, with n 0, too").refuses("copy(0,0,2,0,0)", STORE).then("sheet(3,1,0)").refuses("copy(3,0,0,0,0)", STORE);
    rows("INDEX: i").bounds("copy(0,@,1,0,1)", 0, 4, INDEX);
    rows("INDEX: j").bounds("copy(0,0,1,@,1)", 0, 2, INDEX);
    rows("INDEX: n, as many as there is room for").bounds("copy(0,0,1,0,@)", 0, 3, INDEX);
    rows("INDEX: n, as many as there are").bounds("copy(1,0,0,0,@)", 0, 3, INDEX);
    rows("INDEX: n from i on").bounds("copy(0,3,1,0,@)", 0, 2, INDEX);
    rows("INDEX: n from j on").bounds("copy(0,0,1,1,@)", 0, 2, INDEX);
    rows("INDEX: n, to itself").bounds("copy(0,2,0,1,@)", 0, 3, INDEX).bounds("copy(0,1,0,2,@)", 0, 3, INDEX);
    rows("INDEX, with n 0, too: i above how many there are").bounds("copy(0,@,1,0,0)", 0, 5, INDEX);
    rows("INDEX, with n 0, too: j above how many there are").bounds("copy(0,0,1,@,0)", 0, 3, INDEX);
    rows("INDEX: numbers whose sum wraps").refuses("copy(0,MAX,1,0,MAX)", INDEX).refuses("copy(0,0,1,MAX,MAX)", INDEX)
        .refuses("copy(0,MAX,1,MAX,2)", INDEX).refuses("copy(0,1,1,1,MAX)", INDEX).refuses("copy(0,MIN,1,MIN,MIN)", INDEX)
        .refuses("copy(0,5,1,3,MIN)", INDEX);
    full("27 copy", "INDEX, of sixty").bounds("copy(2,0,3,0,@)", 0, 60, INDEX).bounds("copy(2,@,3,0,1)", 0, 59, INDEX)
        .bounds("copy(2,0,3,@,1)", 0, 59, INDEX).bounds("copy(2,@,3,0,0)", 0, 60, INDEX);
    rows("BAD ahead of NULL").refuses("copy(4,0,3,0,1)", BAD).refuses("copy(3,0,4,0,1)", BAD).refuses("copy(3,0,-1,0,1)", BAD);
    rows("BAD ahead of STORE and INDEX").refuses("copy(0,-1,4,0,1)", BAD).refuses("copy(-1,0,2,9,1)", BAD);
    rows("NULL ahead of STORE: the FORM it had is gone").then("lose(2)").refuses("copy(0,0,2,0,1)", NULL).refuses("copy(2,0,0,0,1)", NULL);
    rows("NULL ahead of INDEX").refuses("copy(0,9,3,0,1)", NULL).refuses("copy(3,0,0,-1,-1)", NULL);
    rows("STORE ahead of INDEX").refuses("copy(0,-1,2,0,1)", STORE).refuses("copy(0,0,2,4,1)", STORE).refuses("copy(2,0,0,0,-1)", STORE);
  }

  private static void write() {
    String p = "28 write";
    middling(p, "TURNS: to as many as there are").bounds("write(@,0)", 0, 2, BAD);
    middling(p, "a SHEET: one too small, one too large").bounds("write(0,@)", 0, 3, BAD);
    full(p, "TURNS: up to twelve").bounds("write(@,0)", 0, 12, BAD);
    edge(p, "both on a new object").bounds("write(@,0)", 0, 0, BAD).bounds("write(0,@)", 0, 3, BAD);
    middling(p, "NULL").refuses("write(0,3)", NULL).refuses("write(2,3)", NULL);
    edge(p, "NULL: all SHEETS are LOST at first").refuses("write(0,0)", NULL).refuses("write(0,3)", NULL);
    middling(p, "BAD ahead of NULL").refuses("write(3,3)", BAD).refuses("write(-1,3)", BAD).refuses("write(3,4)", BAD);
    edge(p, "no COLUMNS").then("sheet(0,0,3) lay(0,0,0,5)").is("write(0,0) get(0,0,0)", 0, 5);
    edge(p, "no items").wall("n;n").then("sheet(0,0,0)").is("write(0,0) count(8)", 0, 0);
    edge(p, "fewer items than COLUMNS").wall("n;N;").then("sheet(0,0,2)").is("write(0,0) get(0,0,0) get(0,0,1)", 2, 1, 2);
    edge(p, "as many items as COLUMNS").wall("n;N;").then("sheet(0,1,3) lay(0,1,2,7)").is("write(0,0) get(0,1,2)", 3, 0);
    edge(p, "more items than COLUMNS").wall("n;N").then("sheet(0,2,3) lay(0,2,2,7)").is("write(0,0) get(0,2,1) get(0,2,2)", 2, 2, 7);
    edge(p, "eight COLUMNS to sixty items").wall("NNNNNNNN;;;;;;;N").then("sheet(0,0,60) lay(0,0,8,7)")
        .is("write(0,0) get(0,0,0) get(0,0,7) get(0,0,8)", 8, 16, 2, 7);
    middling(p, "behind so many TURNS").is("write(0,0) get(0,0,0) get(0,0,2) write(1,0) get(0,0,0) get(0,0,2) write(2,0) get(0,0,0) get(0,0,1)",
        3, 4, 2, 3, 4, 0, 3, 3, 3);
    edge(p, "behind twelve").wall(";").turns("s7;".repeat(11) + "s1").then("sheet(0,0,2)").is("write(11,0) get(0,0,1) write(12,0) get(0,0,1)", 2, 0, 2, 1);
  }

  private static void count() {
    String p = "29 count";
    middling(p, "what: one too small, one too large").bounds("count(@)", 0, 8, BAD);
    edge(p, "what on a new object").bounds("count(@)", 0, 8, BAD);
    full(p, "what, where all is full").bounds("count(@)", 0, 8, BAD);
    full(p, "all that is full").is("count(0) count(1) count(2) count(3) count(4)", 8, 12, 63, 59, 8);
    edge(p, "all that is empty").is("count(0) count(1) count(2) count(3) count(4) count(5) count(6) count(7) count(8)", 0, 0, 0, 0, 0, 0, 0, 0, 0);
    edge(p, "COLUMNS: one byte of text tells one, or two").wall("n").is("count(0)", 1).then("wipe(0) type(0,59)").is("count(0)", 2);
    edge(p, "STONES behind all TURNS").wall("n;s").turns("-1n0;-0s1s0").is("count(5)", 3);
    edge(p, "STONES: as many as can be").wall("nnnnnnnn;".repeat(7)).turns("n7n7n7;s7s7s7;n7n7n7").is("count(5)", 64);
    edge(p, "STONES, not HEIGHT").wall("NN;S").is("count(5)", 3);
    edge(p, "TURNS that did something: none").wall("n").turns("s0;n0;s7").is("count(6)", 0);
    edge(p, "TURNS that did something: it took alone").wall("s").turns("-0s0").is("count(6)", 1);
    edge(p, "TURNS that did something: it laid alone").wall("n").turns("-0n0").is("count(6)", 1);
    edge(p, "TURNS that did something: both is one").wall("s").turns("-0n0n0n0").is("count(6)", 1);
    edge(p, "TURNS that did something: all twelve").wall(";").turns("n0;s1;".repeat(5) + "n0;s1").is("count(6)", 12);
    edge(p, "PUSH, the least and the most").then("set(2,9)").is("count(7)", 9).then("set(2,0)").is("count(7)", 0);
  }

  private static void findings() {
    String p = "29 count, the latest FINDING";
    edge(p, "1 NULL").is("lose(0) count(8)", NULL, 1);
    edge(p, "2 INDEX").then("sheet(0,0,0)").is("lay(0,0,0,0) count(8)", INDEX, 2);
    edge(p, "3 CAST").then("sheet(0,0,0)").is("lay(0,1,0,0) count(8)", CAST, 3);
    edge(p, "4 STORE").then("sheet(0,0,0) sheet(1,1,0)").is("copy(0,0,1,0,0) count(8)", STORE, 4);
    edge(p, "5 SIZE").is("sheet(0,0,-1) count(8)", SIZE, 5);
    edge(p, "the latest of two").is("sheet(0,0,-1) lose(0) count(8)", SIZE, NULL, 1);
    edge(p, "it stays through calls that find nothing").is("lose(0) sheet(0,0,1) get(0,0,0) lose(0) count(8)", NULL, 1, 0, 1, 1);
    edge(p, "BAD, NOT, FULL are no FINDINGS").is("sheet(0,0,-1)", SIZE).is("lose(4) undo(0) count(9) type(0,256)", BAD, Edge.NOT, BAD, BAD)
        .then(" seen(0,0,0)".repeat(8)).is("seen(0,0,0) count(8)", FULL, 5);
    edge(p, "where the answer is the least int, count() 8 tells").is("get(0,0,0) count(8)", MIN, 1);
  }

  // ---- the digest, told by the answers of another object with the same calls behind it

  private static void digest() {
    mixed("no COLUMNS, no TURNS", "", "", "");
    mixed("TURNS, but no COLUMNS: years is told as it is, BAD", "", "n0", "");
    mixed("COLUMNS, but no TURNS: behind none is behind all", "n;sN", "", "");
    mixed("one of each", "n", "n0", "");
    mixed("both with a FAULT", "nx", "n0;", "");
    mixed("eight COLUMNS, twelve TURNS", "NNNNNNNN;SSSSSSSS;nnnnnnnn;ssssssss;NNNNNNNN;SSSSSSSS;nnnnnnnn;",
        "-1N1;-0S0;-3N3;-2S2;-1n7;-0s7;-1N6;-6S5;-5N4;-4S4;-3N0;-2S1", "seen(12,7,2) set(1,16) set(3,16) set(2,5)");
    mixed("a LEAN of -2 and what is NONE", "S;;nnnn", "n0;s2", "set(0,1) set(5,3)");
    mixed("what is opened by more than one", "nnnnn;nnnnn;n", "", "");
    mixed("what two play otherwise than one", "nnnn", "", "set(1,16)");
    mixed("a wall that does not STAND, and cannot", "NNNNNN", "s0", "seen(1,0,12)");
    Edge x = edge("30 digest", "it changes nothing").wall("n;sN").turns("-1n0").then("set(2,2) seen(1,0,2)");
    long one = x.ask("digest()");
    x.is("digest() count(4) count(7) count(8) height(1,0)", one, 1, 2, 0, 2);
    edge("30 digest", "a new object's").is("digest()", mixOf(edge("30 digest", "a new object")));
    Edge y = edge("30 digest", "count() 8 and the SHEETS are not in it");
    long without = y.ask("digest()");
    y.then("sheet(0,0,5) lay(0,0,1,7)").is("lose(3) digest()", NULL, without);
  }

  private static void mixed(String sentence, String wall, String turns, String calls) {
    Edge asked = edge("30 digest", sentence).wall(wall).turns(turns);
    Edge other = edge("30 digest", sentence + ", as longs that wrap").wall(wall).turns(turns);
    if (!calls.isEmpty()) {
      asked.then(calls);
      other.then(calls);
    }
    asked.is("digest()", mixOf(other));
  }

  /** 31 h and the next one, without any limit; only what comes out in the end is cut to a long. */
  private static long mixOf(Edge x) {
    BigInteger h = BigInteger.valueOf(17);
    for (String call : mixedCalls(x).trim().split(" ")) {
      h = h.multiply(BigInteger.valueOf(31)).add(BigInteger.valueOf(x.ask(call)));
    }
    return h.longValue();
  }

  private static String mixedCalls(Edge x) {
    long columns = x.ask("count(0)");
    long turns = x.ask("count(1)");
    StringBuilder all = new StringBuilder();
    for (int what = 0; what <= 7; what++) all.append(" count(").append(what).append(")");
    all.append(" fault(0) fault(1)");
    for (long c = 0; c < columns; c++) {
      for (long t : new long[] {0, turns}) {
        String at = "(" + t + "," + c;
        all.append(" height" + at + ") lean" + at + ") stone" + at + ",-1) stone" + at + ",0)");
      }
    }
    for (long t = 0; t < turns; t++) for (int what = 0; what <= 2; what++) all.append(" turn(" + t + "," + what + ")");
    for (long t : new long[] {0, turns}) for (int what = 0; what <= 3; what++) all.append(" behind(" + t + "," + what + ")");
    for (long c = 0; c < columns; c++) all.append(" years(7,9," + c + ")");
    all.append(" first(0) first(1) highest() mend(-1) mend(0) open(3,-1) open(3,0) sides(2,0) sides(2,1)");
    all.append(" who(0) who(1) who(2) frost(5,0) frost(5,1) years(7,9,-1)");
    return all.toString();
  }
}
