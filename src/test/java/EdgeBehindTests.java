/** The edges of promises 7 to 13: what stands behind so many turns, and what each turn did. A test for each sentence. */
public final class EdgeBehindTests {
  private static final int NONE = Edge.NONE, BAD = Edge.BAD;
  private static final String TWELVE = "n0;s0;".repeat(5) + "n0;s0";

  public static void main(String[] args) {
    height();
    taken();
    laid();
    byTurns();
    lean();
    stone();
    behind();
    weakByHeight();
    weakByLean();
    sun();
    weights();
    turn();
    first();
    highest();
    Edge.end();
  }

  private static Edge edge(String promise, String sentence) { return Edge.edge(promise, sentence); }
  private static Edge middling(String promise, String sentence) { return Edge.middling(promise, sentence); }
  private static Edge full(String promise, String sentence) { return Edge.full(promise, sentence); }

  /** How many turns and which column, for the calls that ask for both. */
  private static void turnsAndColumns(String p, String call, String rest, int refusal) {
    String turns = call + "@,0" + rest;
    String columns = call + "0,@" + rest;
    middling(p, "TURNS: to as many as there are").bounds(turns, 0, 2, refusal);
    middling(p, "a COLUMN: one too small, one too large").bounds(columns, 0, 2, refusal);
    middling(p, "a COLUMN, behind all TURNS").bounds(call + "2,@" + rest, 0, 2, refusal);
    full(p, "TURNS: up to twelve").bounds(turns, 0, 12, refusal);
    full(p, "a COLUMN: up to the eighth").bounds(columns, 0, 7, refusal);
    edge(p, "TURNS: none yet, as there are none").wall("n").bounds(turns, 0, 0, refusal);
    edge(p, "a COLUMN: the only one").wall("n").bounds(columns, 0, 0, refusal);
    edge(p, "a COLUMN: of an empty WALL there is none").refuses(call + "0,0" + rest, refusal)
        .refuses(call + "0,-1" + rest, refusal).refuses(call + "-1,0" + rest, refusal).refuses(call + "1,0" + rest, refusal);
    edge(p, "no COLUMN, but TURNS").turns("n0").refuses(call + "0,0" + rest, refusal).refuses(call + "1,0" + rest, refusal);
    edge(p, "with a FAULT there are no TURNS").wall("n").turns("n0;").refuses(call + "1,0" + rest, refusal);
    edge(p, "with a FAULT there are no COLUMNS").wall("n;x").refuses(call + "0,0" + rest, refusal);
  }

  private static void height() {
    String p = "7 height";
    turnsAndColumns(p, "height(", ")", BAD);
    middling(p, "0 TURNS: none yet").is("height(0,0) height(0,1) height(0,2)", 4, 0, 2);
    middling(p, "one, and as many as there are").is("height(1,0) height(1,1) height(1,2) height(2,0) height(2,1) height(2,2)",
        4, 1, 0, 3, 3, 0);
    edge(p, "behind eleven and twelve").wall(";").turns(TWELVE).is("height(10,0) height(11,0) height(12,0)", 8, 8, 8);
    edge(p, "behind twelve, the twelfth does something").wall(";").turns("s0;".repeat(11) + "s1").is("height(11,1) height(12,1)", 0, 1);
    edge(p, "an empty COLUMN").wall(";").is("height(0,0) height(0,1)", 0, 0);
    edge(p, "a STONE is 1 high, a large one 2").wall("n;s;N;S").is("height(0,0) height(0,1) height(0,2) height(0,3)", 1, 1, 2, 2);
    edge(p, "eight STONES, all large, all small").wall("NNSSNNSS;nnssnnss").is("height(0,0) height(0,1)", 16, 8);
  }

  private static void taken() {
    String p = "11 turn, what is taken";
    edge(p, "the other one's").wall("s").turns("-0s0").is("turn(0,1) height(1,0)", 1, 0);
    edge(p, "the other one's, a large one").wall("nS").turns("-0s0").is("turn(0,1) height(1,0)", 1, 1);
    edge(p, "not his own").wall("n").turns("-0s0").is("turn(0,1) height(1,0)", 0, 1);
    edge(p, "not his own, a large one").wall("N").turns("-0s0").is("turn(0,1) height(1,0)", 0, 2);
    edge(p, "the SOUTH takes the NORTH's").wall("n;N").then("set(0,1)").turns("-1n0").is("turn(0,1) height(1,1)", 1, 0);
    edge(p, "the SOUTH does not take his own").wall("s;S").then("set(0,1)").turns("-1n0").is("turn(0,1) height(1,1)", 0, 2);
    edge(p, "the uppermost, though another lies below").wall("sn").turns("-0s0").is("turn(0,1) height(1,0)", 0, 2);
    edge(p, "the uppermost alone").wall("sss").turns("-0s0").is("turn(0,1) height(1,0)", 1, 2);
    edge(p, "of eight STONES").wall("nnnnnnns").turns("-0s0").is("turn(0,1) stone(1,0,-1) stone(1,0,7)", 1, 7, NONE);
    edge(p, "from an empty COLUMN nothing").wall(";s").turns("-0s0").is("turn(0,1) height(1,1)", 0, 1);
    edge(p, "from the last COLUMN there is").wall("n;s").turns("-1s0").is("turn(0,1)", 1);
    edge(p, "from one behind the last nothing").wall("s").turns("-1s0").is("turn(0,1)", 0);
    edge(p, "from the eighth COLUMN").wall(";;;;;;;s").turns("-7s0").is("turn(0,1)", 1);
    edge(p, "from the eighth of seven nothing").wall(";;;;;;s").turns("-7s0").is("turn(0,1) height(1,6)", 0, 1);
    edge(p, "with no WALL nothing").turns("-0s0").is("turn(0,1)", 0);
    edge(p, "nothing told to be taken").wall("s").turns("n0").is("turn(0,1) stone(1,0,0)", 0, 1);
  }

  private static void laid() {
    String p = "11 turn, what is laid";
    edge(p, "his own, small and large").wall(";").turns("n0N1").is("turn(0,2) height(1,0) height(1,1)", 2, 1, 2);
    edge(p, "not the other one's").wall(";").turns("s0S1").is("turn(0,2) height(1,0) height(1,1)", 0, 0, 0);
    edge(p, "the SOUTH lays his own").wall(";").then("set(0,1)").turns("s0S1n0").is("turn(0,2) height(1,0) height(1,1)", 2, 1, 2);
    edge(p, "on the last COLUMN there is").wall(";").turns("n1").is("turn(0,2)", 1);
    edge(p, "not on one behind the last").wall(";").turns("n2").is("turn(0,2) count(5)", 0, 0);
    edge(p, "on the eighth COLUMN").wall(";;;;;;;").turns("n7").is("turn(0,2) height(1,7)", 1, 1);
    edge(p, "not on the eighth of seven").wall(";;;;;;").turns("n7").is("turn(0,2)", 0);
    edge(p, "with no WALL nothing").turns("n0").is("turn(0,2)", 0);
    edge(p, "room: an eighth STONE").wall("nnnnnnn").turns("n0").is("turn(0,2) stone(1,0,-1)", 1, 8);
    edge(p, "no room: a ninth STONE").wall("nnnnnnnn").turns("n0").is("turn(0,2) stone(1,0,-1) height(1,0)", 0, 8, 8);
    edge(p, "room is by STONES, not by HEIGHT").wall("NNNNNNN").turns("N0").is("turn(0,2) height(1,0)", 1, 16);
    edge(p, "no room for a small one, either").wall("NNNNNNNN").turns("n0").is("turn(0,2) height(1,0)", 0, 16);
    edge(p, "room for one of three").wall("nnnnnnn").turns("N0N0N0").is("turn(0,2) height(1,0)", 1, 9);
    edge(p, "room for two of three").wall("nnnnnn").turns("N0N0N0").is("turn(0,2) height(1,0)", 2, 10);
    edge(p, "room for all three").wall("nnnnn").turns("N0N0N0").is("turn(0,2) height(1,0)", 3, 11);
    edge(p, "a full COLUMN does not fill the next").wall("nnnnnnnn;").turns("n0").is("height(1,0) height(1,1)", 8, 0);
    edge(p, "that part alone does nothing: the first").wall(";").turns("s0n0n1").is("turn(0,2) height(1,0) height(1,1)", 2, 1, 1);
    edge(p, "that part alone does nothing: the one between").wall(";").turns("n0n7n1").is("turn(0,2)", 2);
    edge(p, "that part alone does nothing: the last").wall(";").turns("n0n1S1").is("turn(0,2)", 2);
    edge(p, "that part alone does nothing: what is taken").wall("n").turns("-0n0").is("turn(0,1) turn(0,2)", 0, 1);
    edge(p, "first it is taken, then laid: so there is room").wall("nnnnnnns").turns("-0N0").is("turn(0,1) turn(0,2) height(1,0)", 1, 1, 9);
    edge(p, "first it is taken: not what he lays").wall("s").turns("-0n0").is("stone(1,0,0) stone(1,0,-1)", 0, 1);
    edge(p, "as told, one behind the other").wall("s").turns("n0N0").is("stone(1,0,0) stone(1,0,1) stone(1,0,2)", 1, 0, 2);
  }

  private static void byTurns() {
    String p = "11 turn, by BROTHERS in turn";
    edge(p, "the first one by who BEGINS, 0").wall(";").turns("n0s0").is("turn(0,0) turn(0,2) stone(1,0,0)", 0, 1, 0);
    edge(p, "the first one by who BEGINS, 1").wall(";").turns("n0s0").then("set(0,1)").is("turn(0,0) turn(0,2) stone(1,0,0)", 1, 1, 1);
    edge(p, "the twelfth").wall(";").turns(TWELVE).is("turn(10,0) turn(11,0) turn(7,2) turn(8,2)", 0, 1, 1, 0);
    edge(p, "the twelfth, the SOUTH beginning").turns(TWELVE).then("set(0,1)").is("turn(10,0) turn(11,0)", 1, 0);
    edge(p, "a TURN that does nothing is a TURN").wall(";").turns("s0;s0").is("turn(0,2) turn(1,0) turn(1,2)", 0, 1, 1);
    edge(p, "who BEGINS is set back").wall(";").turns("n0").then("set(0,1) set(0,0)").is("turn(0,2) height(1,0)", 1, 1);
  }

  private static void lean() {
    String p = "8 lean";
    turnsAndColumns(p, "lean(", ")", -1002);
    edge(p, "a LEAN of -2 is no refusal").wall("S").is("lean(0,0) lean(0,1)", -2, -1002);
    edge(p, "small ones by 1, large ones by 2").wall("n;s;N;S").is("lean(0,0) lean(0,1) lean(0,2) lean(0,3)", 1, -1, 2, -2);
    edge(p, "the farthest either way").wall("NNNNNNNN;SSSSSSSS").is("lean(0,0) lean(0,1)", 16, -16);
    edge(p, "an empty COLUMN").wall(";").is("lean(0,0) lean(0,1)", 0, 0);
    edge(p, "as much of the one as of the other").wall("nsNSssN").is("lean(0,0)", 0);
    middling(p, "behind none, and as many as there are").is("lean(0,0) lean(0,2) lean(2,0) lean(2,1) lean(2,2)", 2, -2, -1, -1, 0);
  }

  private static void stone() {
    String p = "9 stone";
    turnsAndColumns(p, "stone(", ",-1)", BAD);
    middling(p, "i is NONE, 0 to 7").bounds("stone(0,0,@)", -1, 7, BAD);
    full(p, "i is NONE, 0 to 7, of eight STONES").bounds("stone(0,0,@)", -1, 7, BAD);
    edge(p, "i is NONE, 0 to 7, of none").wall(";").bounds("stone(0,0,@)", -1, 7, BAD);
    edge(p, "i on a new object").refuses("stone(0,0,-2)", BAD).refuses("stone(0,0,8)", BAD).refuses("stone(0,0,0)", BAD);
    edge(p, "the i-th, 0 n, 1 s, 2 N, 3 S").wall("nsNS").is("stone(0,0,0) stone(0,0,1) stone(0,0,2) stone(0,0,3)", 0, 1, 2, 3);
    edge(p, "the eighth").wall("nnnnnnnS").is("stone(0,0,-1) stone(0,0,6) stone(0,0,7)", 8, 0, 3);
    edge(p, "NONE, one above the uppermost").wall("SSS").is("stone(0,0,-1) stone(0,0,2) stone(0,0,3) stone(0,0,7)", 3, 3, NONE, NONE);
    edge(p, "NONE, of an empty COLUMN").wall(";n").is("stone(0,0,-1) stone(0,0,0)", 0, NONE);
    edge(p, "NONE, where one was taken").wall("S").turns("-0s0").is("stone(0,0,0) stone(1,0,0) stone(1,0,-1)", 3, NONE, 0);
  }

  private static void behind() {
    String p = "10 behind";
    middling(p, "TURNS: to as many as there are").bounds("behind(@,0)", 0, 2, BAD).bounds("behind(@,3)", 0, 2, BAD);
    full(p, "TURNS: up to twelve").bounds("behind(@,1)", 0, 12, BAD).bounds("behind(@,2)", 0, 12, BAD);
    edge(p, "TURNS: none yet, on a new object").bounds("behind(@,0)", 0, 0, BAD);
    edge(p, "what on a new object").bounds("behind(0,@)", 0, 3, BAD);
    middling(p, "what: one too small, one too large").bounds("behind(0,@)", 0, 3, BAD).bounds("behind(2,@)", 0, 3, BAD);
    edge(p, "no COLUMNS: all is 0").is("behind(0,0) behind(0,1) behind(0,2) behind(0,3)", 0, 0, 0, 0);
    edge(p, "no COLUMNS, but TURNS: all is 0").turns("n0").is("behind(1,0) behind(1,1) behind(1,2) behind(1,3)", 0, 0, 0, 0);
    edge(p, "with a FAULT there are no TURNS").wall("n").turns("n0;").refuses("behind(1,0)", BAD);
  }

  private static void weak(String sentence, String wall, int bond, int push, int want) {
    edge("10 behind, WEAK by HEIGHT", sentence + " (" + wall + ")").wall(wall)
        .then("set(1," + bond + ") set(2," + push + ") set(3,16)").is("behind(0,0)", want);
  }

  private static void weakByHeight() {
    weak("just by BOND", "nnn;", 3, 0, 0);
    weak("by one more than BOND", "nnnn;", 3, 0, 1);
    weak("alone: 0, where there is none", "nnn", 3, 0, 0);
    weak("alone, by one more", "nnnn", 3, 0, 1);
    weak("at the left end", "nnnn;n", 3, 0, 0);
    weak("at the left end, by one more", "nnnnn;n", 3, 0, 1);
    weak("at the right end", "n;nnnn", 3, 0, 0);
    weak("at the right end, by one more", "n;nnnnn", 3, 0, 2);
    weak("the greater HEIGHT beside it, at the left", "nn;nnnnn;n", 3, 0, 0);
    weak("the greater HEIGHT beside it, at the left, by one more", "nn;nnnnnn;n", 3, 0, 2);
    weak("the greater HEIGHT beside it, at the right", ";nnnnn;nn", 3, 0, 0);
    weak("the greater HEIGHT beside it, at the right, by one more", ";nnnnnn;nn", 3, 0, 2);
    weak("not the one behind the next", "nnnn;;nnn", 3, 0, 1);
    weak("the eighth", ";;;;;;;nnnn", 3, 0, 128);
    weak("the eighth beside the seventh", ";;;;;;n;nnnn", 3, 0, 0);
    weak("the seventh beside the eighth", ";;;;;;nnnn;n", 3, 0, 0);
    weak("BOND 0, as high", "n;n", 0, 0, 0);
    weak("BOND 0, one higher", "n;nn", 0, 0, 2);
    weak("BOND 16, the highest", "NNNNNNNN", 16, 0, 0);
    weak("BOND 15, the highest", "NNNNNNNN", 15, 0, 1);
    weak("BOND less PUSH", "nnnnnnn", 16, 9, 0);
    weak("BOND less PUSH, by one more", "nnnnnnnn", 16, 9, 1);
    weak("together 0", "n;n", 9, 9, 0);
    weak("together 0, one higher", "n;nn", 9, 9, 2);
    weak("together below 0: as high", "n;n", 0, 1, 3);
    weak("together below 0: just so much lower", "n;nn", 0, 1, 2);
    weak("together below 0: not so much lower", "n;nn", 0, 2, 3);
    weak("together -9: just so much lower", "n;NNNNN", 0, 9, 2);
    weak("together -9: not so much lower", "nn;NNNNN", 0, 9, 3);
    weak("together below 0: an empty one, too", ";", 0, 1, 3);
    weak("together below 0: all eight", ";;;;;;;", 1, 2, 255);
    weak("together below 0: no COLUMNS", "", 0, 9, 0);
  }

  private static void leans(String sentence, String wall, int bears, int want) {
    edge("10 behind, WEAK by LEAN", sentence + " (" + wall + ")").wall(wall).then("set(1,16) set(3," + bears + ")")
        .is("behind(0,0)", want);
  }

  private static void weakByLean() {
    leans("just BEARS", "nnnnnn", 6, 0);
    leans("one more than BEARS", "nnnnnnn", 6, 1);
    leans("just BEARS, the other way", "ssssss", 6, 0);
    leans("one more than BEARS, the other way", "sssssss", 6, 1);
    leans("BEARS 0: none", "ns;;SN", 0, 0);
    leans("BEARS 0: by one, either way", "n;s;ns", 0, 3);
    leans("BEARS 16: the farthest, either way", "NNNNNNNN;SSSSSSSS", 16, 0);
    leans("BEARS 15: the farthest, either way", "NNNNNNNN;SSSSSSSS", 15, 3);
    leans("the eighth", ";;;;;;;S", 1, 128);
    edge("10 behind, WEAK", "by HEIGHT alone, by LEAN alone, by both").wall("nsns;nsns;;sss;;nnnn").then("set(3,2)")
        .is("behind(0,0)", 8 + 32);
    edge("10 behind, WEAK", "THE WALL STANDS, if no COLUMN is").wall("nnn;").is("behind(0,0) mend(-1) first(0)", 0, 0, NONE);
  }

  private static void sunny(String sentence, String wall, int low, int pears, int want) {
    edge("10 behind, SUN and PEARS", sentence + " (" + wall + ")").wall(wall).then("set(4," + low + ") set(5," + pears + ")")
        .is("behind(0,1)", want);
  }

  private static void sun() {
    sunny("no higher than LOW", "nnnn", 4, 255, 1);
    sunny("one higher than LOW", "nnnnn", 4, 255, 0);
    sunny("LOW 0: an empty one", ";n", 0, 255, 1);
    sunny("LOW 16: the highest", "NNNNNNNN", 16, 255, 1);
    sunny("LOW 15: the highest", "NNNNNNNN", 15, 255, 0);
    sunny("no PEARS", ";;", 4, 0, 0);
    sunny("all of three", ";;", 4, 255, 3);
    sunny("all of eight", ";;;;;;;", 4, 255, 8);
    sunny("by the first", "n;NNNNN;n", 4, 1, 1);
    sunny("by one in the shade", "n;NNNNN;n", 4, 2, 0);
    sunny("by the eighth", ";;;;;;;", 4, 128, 1);
    sunny("by the eighth of seven: that there are", ";;;;;;", 4, 128, 0);
    sunny("by one behind the last: that there are", ";", 4, 4, 0);
    sunny("by one ahead of the last", ";;", 4, 4, 1);
  }

  private static void weights() {
    String p = "10 behind, weights";
    edge(p, "small ones 1, large ones 2").wall("n;s;N;S").is("behind(0,2) behind(0,3)", 3, 3);
    edge(p, "of one alone").wall("nN").is("behind(0,2) behind(0,3)", 3, 0);
    edge(p, "of the other alone").wall("sS").is("behind(0,2) behind(0,3)", 0, 3);
    edge(p, "of the heaviest WALL").wall("NNNNNNNN;".repeat(7)).turns("N7N7N7;s0;N7N7N7;s0;N7N7N7").is("behind(0,2) behind(5,2) count(5)", 112, 128, 64);
    edge(p, "of the SOUTH's heaviest").wall("SSSSSSSS;".repeat(7)).is("behind(0,2) behind(0,3)", 0, 112);
  }

  private static void turn() {
    String p = "11 turn";
    middling(p, "a TURN: one too small, one too large").bounds("turn(@,0)", 0, 1, BAD).bounds("turn(@,1)", 0, 1, BAD)
        .bounds("turn(@,2)", 0, 1, BAD);
    middling(p, "what: one too small, one too large").bounds("turn(0,@)", 0, 2, BAD);
    full(p, "a TURN: up to the twelfth").bounds("turn(@,0)", 0, 11, BAD).bounds("turn(@,2)", 0, 11, BAD);
    edge(p, "the only TURN").turns("n0").bounds("turn(@,1)", 0, 0, BAD);
    edge(p, "there are no TURNS").wall("n").refuses("turn(0,0)", BAD).refuses("turn(-1,0)", BAD).refuses("turn(0,3)", BAD);
    edge(p, "with a FAULT there are no TURNS").turns("n0;").refuses("turn(0,0)", BAD);
    edge(p, "it took one: 1, 0").wall("s;n").turns("-0n1;-0n0").is("turn(0,1) turn(1,1)", 1, 0);
    edge(p, "it laid 0 to 3").wall(";").turns("s0;s0;n0n1;s0s1s0").is("turn(0,2) turn(1,2) turn(2,2) turn(3,2)", 0, 1, 2, 3);
  }

  private static void first() {
    String p = "12 first";
    middling(p, "what: one too small, one too large").bounds("first(@)", 0, 1, BAD);
    edge(p, "what on a new object").bounds("first(@)", 0, 1, BAD);
    full(p, "what, where all is full").bounds("first(@)", 0, 1, BAD);
    edge(p, "NONE: it always STANDS").wall("nnn").turns("n7").is("first(0) first(1)", NONE, NONE);
    edge(p, "NONE: no COLUMNS").is("first(0) first(1)", NONE, NONE);
    edge(p, "NONE: no COLUMNS, though BOND less PUSH is below 0").turns("n0").then("set(1,0) set(2,9)").is("first(0) first(1)", NONE, NONE);
    edge(p, "behind none yet").wall("nnnn").turns("n7").is("first(0) first(1)", 0, 0);
    edge(p, "behind none yet, as there are none").wall(";;nnnn").is("first(0) first(1)", 0, 2);
    edge(p, "behind the only one").wall(";nnn").turns("n1").is("first(0) first(1)", 1, 1);
    edge(p, "behind all twelve").wall(";;nnn").turns("n7;".repeat(11) + "s2").is("first(0) first(1)", 12, 2);
    edge(p, "first, though it STANDS again").wall("nnn;").turns("n0;s1").is("first(0) first(1) behind(2,0)", 1, 0, 0);
    edge(p, "the least of two").wall(";nnnn;;;nnnn").is("first(0) first(1) behind(0,0)", 0, 1, 2 + 16);
    edge(p, "the last COLUMN").wall(";;;;;;;nnnn").is("first(0) first(1)", 0, 7);
    edge(p, "as BOND is set").wall("nnn").then("set(1,2)").is("first(0)", 0).then("set(1,3)").is("first(0)", NONE);
    edge(p, "as PUSH is set").wall("nnn").then("set(2,1)").is("first(0)", 0).then("set(2,0)").is("first(0)", NONE);
    edge(p, "as BEARS is set").wall("nnn").then("set(3,2)").is("first(0)", 0).then("set(3,3)").is("first(0)", NONE);
  }

  private static void highest() {
    String p = "13 highest";
    edge(p, "NONE: there are no COLUMNS").is("highest()", NONE);
    edge(p, "NONE: with a FAULT there are no COLUMNS").wall("n;x").is("highest()", NONE);
    edge(p, "COLUMN 0 where all are empty").wall(";;;;;;;").is("highest()", 0);
    edge(p, "the only one, and it is empty").wall("n").turns("s0;-0n0").is("highest() height(2,0)", 0, 0);
    edge(p, "of like ones the first").wall("n;NN;nnnn;NN").is("highest()", 1);
    edge(p, "of like ones, all as high as can be, the first").wall("NNNNNNNN;SSSSSSSS").is("highest()", 0);
    edge(p, "the eighth").wall("n;n;n;n;n;n;n;N").is("highest()", 7);
    edge(p, "by HEIGHT, not by STONES").wall("nnn;NN").is("highest()", 1);
    edge(p, "behind all TURNS").wall("n;;").turns("N2").is("highest()", 2);
    edge(p, "behind all twelve").wall("n;").turns("n7;".repeat(11) + "S1").is("highest()", 1);
  }
}
