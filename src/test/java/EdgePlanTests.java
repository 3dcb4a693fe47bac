/** The edges of promises 14 to 16: what would mend the wall, what would open it, two who answer each other. */
public final class EdgePlanTests {
  private static final int NONE = Edge.NONE, BAD = Edge.BAD;

  public static void main(String[] args) {
    mendNumbers();
    mend();
    openNumbers();
    open();
    sidesNumbers();
    sides();
    sidesByTurns();
    Edge.end();
  }

  private static Edge edge(String promise, String sentence) { return Edge.edge(promise, sentence); }
  private static Edge middling(String promise, String sentence) { return Edge.middling(promise, sentence); }
  private static Edge full(String promise, String sentence) { return Edge.full(promise, sentence); }

  // ---- MEND

  private static void mendNumbers() {
    String p = "14 mend";
    middling(p, "i is NONE, 0 to 2").bounds("mend(@)", -1, 2, BAD);
    edge(p, "i on a new object").bounds("mend(@)", -1, 2, BAD);
    full(p, "i where all is full").bounds("mend(@)", -1, 2, BAD);
    edge(p, "no COLUMNS: it STANDS").is("mend(-1) mend(0) mend(1) mend(2)", 0, NONE, NONE, NONE);
    edge(p, "with a FAULT there are no COLUMNS").wall("nnnn;;x").is("mend(-1)", 0);
  }

  /** A wall that bears any lean or that has any bond, where it is not told otherwise. */
  private static void mended(String sentence, String wall, int bond, int bears, long... want) {
    edge("14 mend", sentence + " (" + wall + ")").wall(wall).then("set(1," + bond + ") set(3," + bears + ")")
        .is("mend(-1) mend(0) mend(1) mend(2) count(5)", want[0], want[1], want[2], want[3], wall.replace(";", "").length());
  }

  private static void mend() {
    mended("none: it STANDS already", "nnn;", 3, 16, 0, NONE, NONE, NONE);
    mended("one", "nnnn;", 3, 16, 1, 1, NONE, NONE);
    mended("two", "nnnnn;", 3, 16, 2, 1, 1, NONE);
    mended("three", "nnnnnn;", 3, 16, 3, 1, 1, 1);
    mended("four are too many", "nnnnnnn;", 3, 16, NONE, NONE, NONE, NONE);
    mended("on COLUMNS that there are: not beside the only one", "nnnn", 3, 16, NONE, NONE, NONE, NONE);
    mended("on COLUMNS that there are: not behind the last", "n;nnnnn", 3, 16, 1, 0, NONE, NONE);
    mended("room for one, one needed", "nnnnnnn", 16, 6, 1, 8, NONE, NONE);
    mended("no room, one needed", "nnnnnnns", 16, 5, NONE, NONE, NONE, NONE);
    mended("room for one, two needed", "nnnnnnn", 16, 5, NONE, NONE, NONE, NONE);
    mended("room for two, three needed", "NNNnnn", 16, 6, NONE, NONE, NONE, NONE);
    mended("room for three, three needed", "NNNNn", 16, 6, 3, 8, 8, 8);
    mended("small STONES: a large one's weight needs two", "NNNN", 16, 6, 2, 8, 8, NONE);
    mended("of like ones the least: the COLUMN at the left", ";nnnn;", 3, 16, 1, 0, NONE, NONE);
    mended("of like ones the least: the NORTH's ahead of the SOUTH's", "nnnn;;;;;;;", 3, 16, 1, 1, NONE, NONE);
    mended("the SOUTH's, where the NORTH's leans too far", "nsnsns;nn", 3, 2, 1, 9, NONE, NONE);
    mended("one of each", "nsnsns;n", 3, 1, 2, 1, 9, NONE);
    mended("the greatest number", ";;;;;;;nnnnnnn", 16, 6, 1, 15, NONE, NONE);
    mended("the greatest number, three times", ";;;;;;;NNNNn", 16, 6, 3, 15, 15, 15);
    mended("the least number", "sssssss;", 16, 6, 1, 0, NONE, NONE);
    mended("none less than the one ahead", "nnnn;;;nnnn", 3, 16, 2, 1, 2, NONE);
    mended("none less than the one ahead, whose ahead of where", "nnnnnnn;sssssss", 16, 6, 2, 1, 8, NONE);
    mended("the fewest, though a row of more is less", ";;nnnn", 3, 16, 1, 1, NONE, NONE);
    mended("one that is not beside anything weak does not help", ";;;nnnnn", 3, 16, 2, 2, 2, NONE);
    edge("14 mend", "below 0 nothing helps").wall(";").then("set(1,0) set(2,1)").is("mend(-1) mend(0)", NONE, NONE);
    edge("14 mend", "behind all TURNS: it STANDS").wall("nnnn;").turns("n1").is("mend(-1) mend(0)", 0, NONE);
    edge("14 mend", "behind all TURNS: it does not").wall("nnn;").turns("n0n0").is("mend(-1) mend(0) mend(1)", 2, 1, 1);
    edge("14 mend", "who would be next does not matter").wall("nnnn;").then("set(0,1)").is("mend(0)", 1);
    edge("14 mend", "asked once more").wall("nnnnn;").is("mend(1) mend(0) mend(-1) mend(2)", 1, 1, 2, NONE);
    edge("14 mend", "asked once more, with the wall another one").wall("nnnnn;").is("mend(-1)", 2).turns("n1").is("mend(-1) mend(0)", 1, 1)
        .then("set(1,16)").is("mend(-1) mend(0)", 0, NONE).then("set(1,0) set(2,1)").is("mend(-1) mend(0)", NONE, NONE);
    edge("14 mend", "asked behind open").wall("nnnnn;").is("open(0,-1) mend(-1) open(0,0) mend(0)", 2, 2, 0, 1);
  }

  // ---- OPEN

  private static void openNumbers() {
    String p = "15 open";
    middling(p, "PEARS are 0 to 8").bounds("open(@,-1)", 0, 8, BAD).bounds("open(@,2)", 0, 8, BAD);
    middling(p, "i is NONE, 0 to 2").bounds("open(0,@)", -1, 2, BAD).bounds("open(8,@)", -1, 2, BAD);
    edge(p, "PEARS on a new object").bounds("open(@,-1)", 0, 8, BAD);
    edge(p, "i on a new object").bounds("open(0,@)", -1, 2, BAD);
    full(p, "both where all is full").bounds("open(@,0)", 0, 8, BAD).bounds("open(3,@)", -1, 2, BAD);
    edge(p, "no COLUMNS, no PEARS").is("open(0,-1) open(0,0) open(0,1) open(0,2)", 0, NONE, NONE, NONE);
    edge(p, "no COLUMNS, one PEAR").is("open(1,-1) open(1,0) open(8,-1)", NONE, NONE, NONE);
  }

  private static void opened(String sentence, String wall, String rules, int pears, long... want) {
    String call = "open(" + pears + ",";
    edge("15 open", sentence + " (" + wall + ", " + pears + ")").wall(wall).then(rules)
        .is(call + "-1) " + call + "0) " + call + "1) " + call + "2) count(5)", want[0], want[1], want[2], want[3],
            wall.replace(";", "").length());
  }

  private static void open() {
    String far = "set(1,16) set(3,16)";
    opened("none: it is so already", "nnnn", far, 1, 0, NONE, NONE, NONE);
    opened("one", "nnnnn", far, 1, 1, 0, NONE, NONE);
    opened("two", "nnnnnn", far, 1, 2, 0, 0, NONE);
    opened("three", "nnnnnnn", far, 1, 3, 0, 0, 0);
    opened("four are too many", "nnnnnnnn", far, 1, NONE, NONE, NONE, NONE);
    opened("0 PEARS: just so that it STANDS", "nnnnn", "set(3,16)", 0, 2, 0, 0, NONE);
    opened("0 PEARS, and it STANDS", "nnn", "set(4,0)", 0, 0, NONE, NONE, NONE);
    opened("or more", ";;", far, 1, 0, NONE, NONE, NONE);
    opened("just as many as there are", ";;", far, 3, 0, NONE, NONE, NONE);
    opened("more than there are", ";;", far, 4, NONE, NONE, NONE, NONE);
    opened("8 PEARS of eight COLUMNS", ";;;;;;;nnnnn", "set(1,4)", 8, 1, 7, NONE, NONE);
    opened("8 PEARS of seven COLUMNS", ";;;;;;", far, 8, NONE, NONE, NONE, NONE);
    opened("the uppermost, and it is large", "nNN", far, 1, 1, 0, NONE, NONE);
    opened("the uppermost, and it is small", "NNn", "set(1,16) set(4,3)", 1, 2, 0, 0, NONE);
    opened("whose they are does not matter", "nnnnns;nsnsnn", far, 2, NONE, NONE, NONE, NONE);
    opened("whose they are does not matter, one of each", "nsnns;nnssn", far, 2, 2, 0, 1, NONE);
    opened("no more than there are in a COLUMN", "N;NNNN", "set(1,16) set(3,16) set(4,0)", 1, 1, 0, NONE, NONE);
    opened("all of a COLUMN", "nnn", "set(4,0)", 1, 3, 0, 0, 0);
    opened("it has to STAND", "nnnnn;nnnnn", "set(1,1) set(4,3)", 1, 3, 0, 0, 1);
    opened("it cannot STAND", "nnnnnn;nnnnnn", "set(1,1) set(4,3)", 1, NONE, NONE, NONE, NONE);
    opened("of like ones the least", "nnnnn;nnnnn", far, 1, 1, 0, NONE, NONE);
    opened("where the PEARS are", "nnnnn;nnnnn", "set(1,16) set(5,2)", 1, 1, 1, NONE, NONE);
    opened("where the PEARS are: that there are", "nnnnn;nnnnn", "set(1,16) set(5,4)", 1, NONE, NONE, NONE, NONE);
    opened("none less than the one ahead", "nnnnn;nnnnnn", far, 2, 3, 0, 1, 1);
    opened("an empty one has none to be taken", ";", "set(1,0) set(2,1)", 0, NONE, NONE, NONE, NONE);
    opened("so that it leans less", "nnnnnnns;n", "set(1,16)", 0, 0, NONE, NONE, NONE);
    opened("so that it leans less, by two", "nnnnnnnn;n", "set(1,16)", 0, 2, 0, 0, NONE);
    edge("15 open", "behind all TURNS").wall("nnnn").turns("n0").then("set(1,16)").is("open(1,-1) open(1,0)", 1, 0);
    edge("15 open", "LOW 16, LOW 0").wall("NNNNNNNN").then(far + " set(4,16)").is("open(1,-1)", 0).then("set(4,0)").is("open(1,-1)", NONE);
  }

  // ---- SIDES

  private static void sidesNumbers() {
    String p = "16 sides";
    middling(p, "so many more is 1 to 3").bounds("sides(@,0)", 1, 3, BAD).bounds("sides(@,1)", 1, 3, BAD);
    middling(p, "what: one too small, one too large").bounds("sides(1,@)", 0, 1, BAD).bounds("sides(3,@)", 0, 1, BAD);
    edge(p, "so many on a new object").bounds("sides(@,0)", 1, 3, BAD);
    edge(p, "what on a new object").bounds("sides(1,@)", 0, 1, BAD);
    full(p, "both where all is full").bounds("sides(@,1)", 1, 3, BAD).bounds("sides(2,@)", 0, 1, BAD);
    edge(p, "no COLUMNS: none is laid").is("sides(1,0) sides(1,1) sides(3,0) sides(3,1)", 0, 8, 0, 8);
    edge(p, "no COLUMNS, the SOUTH would be next").then("set(0,1)").is("sides(1,0) sides(1,1) sides(2,1)", 0, 8, 8);
  }

  private static void played(String sentence, String wall, String rules, int n, long worth, long move) {
    edge("16 sides", sentence + " (" + wall + ", " + n + ")").wall(wall).then("set(1,16) " + rules)
        .is("sides(" + n + ",0) sides(" + n + ",1) count(5)", worth, move, wall.replace(";", "").length());
  }

  private static void sides() {
    String south = "set(0,1) ";
    played("the least by which it is so", "n", "", 1, 1, 0);
    played("none (8), where each STONE makes it less", "nnnn", "", 1, 1, 8);
    played("none (8), as there is no room", "nsnsnsns", "", 1, 0, 8);
    played("none (8), the SOUTH having no room", "nsnsnsns", south, 1, 0, 8);
    played("room for one more", "nsnsnsn", south + "set(4,7)", 1, 0, 0);
    played("the SOUTH wants as few", "nnnn", south, 1, 0, 0);
    played("the SOUTH can do nothing: the least", "nnn", south, 1, 1, 0);
    played("-1: it does not STAND, whatever is done", "nnnnn", "set(1,3)", 1, -1, 0);
    played("-1 is less than no PEARS", "nnn", south + "set(1,3) set(5,0)", 1, -1, 0);
    played("no PEARS are more than -1", "nnn", "set(1,3) set(5,0)", 1, 0, 8);
    played("the NORTH mends it", "nnnn;", "set(1,3)", 1, 2, 1);
    played("the SOUTH does not mend it", "nnnn;", south + "set(1,3)", 1, -1, 0);
    played("a STONE of his own: the NORTH's leans farther", "nnnnnn", "set(4,16)", 1, 1, 8);
    played("a STONE of his own: the SOUTH's leans less", "nnnnnn", south + "set(4,16)", 1, 1, 0);
    played("a STONE of his own: the SOUTH's leans farther", "ssssss", south + "set(4,16)", 1, -1, 0);
    played("a small one, by which it STANDS still", "nnn;", south + "set(1,4)", 1, 2, 0);
    played("the eighth COLUMN", ";;;;;;;", south + "set(4,0) set(5,128)", 1, 0, 7);
    played("not on the eighth of seven", ";;;;;;", south + "set(4,0) set(5,128)", 1, 0, 0);
    played("all eight PEARS", ";;;;;;;", "set(4,0)", 1, 8, 8);
  }

  private static void sidesByTurns() {
    String south = "set(0,1) ";
    played("one: not enough for the SOUTH", "nnn", south, 1, 1, 0);
    played("two: the NORTH lets it be", "nnn", south, 2, 1, 0);
    played("three: the SOUTH has two of them", "nnn", south, 3, 0, 0);
    played("three: only if he begins with it", "nnnnnnnn;nnn", south + "set(3,16)", 3, 0, 1);
    played("two: the one who begins looks ahead", "nnnn", "", 2, 0, 0);
    played("two: the SOUTH takes the room away", ";sssssss", south, 2, -1, 1);
    played("three: the SOUTH's last one breaks it", "nnn", south + "set(1,3)", 3, -1, 0);
    played("two: whatever the SOUTH breaks, the NORTH mends", ";nnn", south + "set(1,3)", 2, 2, 0);
    played("two, by the other: the SOUTH's last one breaks it", "nnn;", "set(1,3)", 2, 2, 1);
    played("two: the NORTH begins elsewhere, or loses", "nnn;", "set(1,2)", 2, -1, 0);
    edge("16 sides", "who would be next, behind one").wall("nnnn").turns("s0").then("set(1,16)").is("sides(1,0) sides(1,1)", 0, 0);
    edge("16 sides", "who would be next, behind two").wall("nnnn").turns("s0;n0").then("set(1,16)").is("sides(1,0) sides(1,1)", 1, 8);
    edge("16 sides", "who would be next, the SOUTH beginning, behind one").wall("nnnn").turns("n0").then("set(1,16) set(0,1)")
        .is("sides(1,0) sides(1,1)", 1, 8);
    edge("16 sides", "who would be next, behind twelve").wall("nnnn").turns("n7;".repeat(11) + "n7").then("set(1,16)")
        .is("sides(1,0) sides(1,1)", 1, 8);
    edge("16 sides", "behind all TURNS").wall("nnn;").turns("n0;n7").then("set(1,16)").is("sides(1,0) sides(1,1)", 2, 1);
  }
}
