/** The edges of promises 1 to 6: a new object, both texts and their faults, what is set. A test for each sentence. */
public final class EdgeTextTests {
  private static final int NONE = Edge.NONE, BAD = Edge.BAD, NOT = Edge.NOT, FULL = Edge.FULL, NULL = Edge.NULL;
  private static final String FULL_WALL = "nnnnnnnn;ssssssss;NNNNNNNN;SSSSSSSS;nnnnnnnn;ssssssss;NNNNNNNN;";
  private static final String TWELVE = "n0;".repeat(11) + "n0";
  private static final String FULL_TURNS = "-0n0;".repeat(11) + "-0n0";

  public static void main(String[] args) {
    newObject();
    type();
    wipe();
    undo();
    faultOfWall();
    faultOfTurns();
    faultIsAsEmpty();
    set();
    Edge.end();
  }

  private static Edge edge(String promise, String sentence) { return Edge.edge(promise, sentence); }
  private static Edge middling(String promise, String sentence) { return Edge.middling(promise, sentence); }
  private static Edge full(String promise, String sentence) { return Edge.full(promise, sentence); }

  private static void newObject() {
    String p = "1 a new object";
    edge(p, "no WALL").is("count(0) count(2) count(5) fault(0) highest() height(0,0)", 0, 0, 0, NONE, NONE, BAD);
    edge(p, "no TURNS").is("count(1) count(3) count(6) fault(1) turn(0,0) behind(0,0) behind(1,0)", 0, 0, 0, NONE, BAD, 0, BAD);
    for (int s = 0; s < 4; s++) edge(p, "SHEET " + s + " is LOST").is("lose(" + s + ") count(8)", NULL, 1);
    edge(p, "nothing is SEEN").is("count(4) forget()", 0, 0);
    edge(p, "count() 8 is 0 before any FINDING").is("count(8)", 0);
    edge(p, "BEGINS is 0 at first").is("set(0,0)", 0);
    edge(p, "BOND is 3 at first").is("set(1,0)", 3);
    edge(p, "PUSH is 0 at first").is("count(7) set(2,9)", 0, 0);
    edge(p, "BEARS is 6 at first").is("set(3,0)", 6);
    edge(p, "LOW is 4 at first").is("set(4,0)", 4);
    edge(p, "PEARS are all at first").wall(";;;;;;;").is("behind(0,1) set(5,0)", 8, 255);
    edge(p, "the 512th call still answers").wall("N").then("count(0) ".repeat(510)).is("height(0,0)", 2);
    Edge one = edge(p, "it knows nothing of another object").wall("n").turns("n0");
    one.then("seen(0,0,0) sheet(0,0,1) set(0,1)");
    edge(p, "it knows nothing of another object").is("count(2) count(3) count(4) set(0,0) lose(0)", 0, 0, 0, 0, NULL);
    one.is("count(2) count(3) count(4) set(0,0) lose(0)", 1, 2, 1, 1, 1);
  }

  private static void type() {
    String p = "2 type";
    middling(p, "text: one too small, one too large").bounds("type(@,110)", 0, 1, BAD);
    middling(p, "a byte is 0 to 255, to the wall").bounds("type(0,@)", 0, 255, BAD);
    middling(p, "a byte is 0 to 255, to the turns").bounds("type(1,@)", 0, 255, BAD);
    edge(p, "the first byte of an empty text").is("type(0,0) type(1,255)", 1, 1);
    edge(p, "bytes 0 and 255 are kept as they are").is("type(0,0) type(0,255) fault(0) undo(0) fault(0)", 1, 2, 0, 1, 0);
    edge(p, "the wall is up to 63 bytes: the last one").then(" type(0,110)".repeat(62)).is("type(0,110) count(2)", 63, 63);
    edge(p, "FULL: a 64th byte of the wall").then(" type(0,110)".repeat(63)).refuses("type(0,110)", FULL);
    edge(p, "the turns are up to 59 bytes: the last one").then(" type(1,110)".repeat(58)).is("type(1,48) count(3)", 59, 59);
    edge(p, "FULL: a 60th byte of the turns").then(" type(1,110)".repeat(59)).refuses("type(1,110)", FULL);
    edge(p, "the wall is not full with the turns' 59").then(" type(0,110)".repeat(59)).is("type(0,110)", 60);
    edge(p, "the wall is full, the turns are not").wall(FULL_WALL).is("type(0,59) type(1,110)", FULL, 1);
    edge(p, "the turns are full, the wall is not").turns(FULL_TURNS).is("type(1,59) type(0,110)", FULL, 1);
    full(p, "FULL, where all is full").refuses("type(0,59)", FULL).refuses("type(1,59)", FULL).refuses("type(0,0)", FULL)
        .refuses("type(1,255)", FULL);
    full(p, "BAD ahead of FULL, to the wall").refuses("type(0,-1)", BAD).refuses("type(0,256)", BAD);
    full(p, "BAD ahead of FULL, to the turns").refuses("type(1,-1)", BAD).refuses("type(1,256)", BAD);
    full(p, "BAD ahead of FULL: no such text").refuses("type(2,110)", BAD).refuses("type(-1,110)", BAD);
    edge(p, "BAD on a new object").bounds("type(@,0)", 0, 1, BAD).bounds("type(0,@)", 0, 255, BAD);
    edge(p, "a full wall that is well").wall(FULL_WALL).is("fault(0) count(0) count(5)", NONE, 8, 56);
    edge(p, "full turns that are well").turns(FULL_TURNS).is("fault(1) count(1)", NONE, 12);
    full(p, "room for just one byte behind undo").then("undo(0) undo(1)")
        .is("type(0,59) type(0,59) type(1,48) type(1,48)", 63, FULL, 59, FULL);
    full(p, "room for all of them behind wipe").then("wipe(0) wipe(1)").is("type(0,59) type(1,48)", 1, 1);
    edge(p, "a byte comes behind a FAULT, too").wall("x").is("type(0,110) count(2) count(0) fault(0)", 2, 2, 0, 0);
  }

  private static void wipe() {
    String p = "3 wipe";
    middling(p, "text: one too small, one too large").bounds("wipe(@)", 0, 1, BAD);
    edge(p, "BAD on a new object").bounds("wipe(@)", 0, 1, BAD);
    full(p, "BAD where all is full").bounds("wipe(@)", 0, 1, BAD);
    edge(p, "an empty text").is("wipe(0) wipe(1)", 0, 0);
    edge(p, "a text of one byte").wall("n").turns("n").is("wipe(0) wipe(1)", 1, 1);
    full(p, "a full text").is("wipe(0) wipe(1)", 63, 59);
    edge(p, "a text with a FAULT: all of its bytes").wall("x;;n").turns("xn0").is("wipe(0) wipe(1)", 4, 3);
    middling(p, "the wall alone is empty").is("wipe(0) count(0) count(2) count(1) count(3) fault(0)", 6, 0, 0, 2, 11, NONE);
    middling(p, "the turns alone are empty").is("wipe(1) count(0) count(2) count(1) count(3) fault(1)", 11, 3, 6, 0, 0, NONE);
    middling(p, "once more").is("wipe(0) wipe(0) wipe(1) wipe(1)", 6, 0, 11, 0);
    edge(p, "nothing of it comes back").wall("NNN").then("wipe(0)").wall("n").is("height(0,0) stone(0,0,-1) lean(0,0)", 1, 1, 1);
    middling(p, "all else is as it was").then("wipe(0) wipe(1)")
        .is("count(4) count(8) set(1,0) set(4,0) set(5,0) lose(0) lose(1) lose(2)", 2, 2, 4, 5, 7, 3, 6, 2);
  }

  private static void undo() {
    String p = "4 undo";
    middling(p, "text: one too small, one too large").bounds("undo(@)", 0, 1, BAD);
    edge(p, "BAD ahead of NOT").refuses("undo(2)", BAD).refuses("undo(-1)", BAD).refuses("undo(MAX)", BAD);
    edge(p, "NOT: a text that is empty").refuses("undo(0)", NOT).refuses("undo(1)", NOT);
    edge(p, "NOT: the wall is empty, the turns are not").turns("n0").refuses("undo(0)", NOT).is("undo(1)", 1);
    edge(p, "NOT: the turns are empty, the wall is not").wall("nn").refuses("undo(1)", NOT).is("undo(0)", 1);
    middling(p, "NOT behind wipe").then("wipe(0) wipe(1)").refuses("undo(0)", NOT).refuses("undo(1)", NOT);
    edge(p, "the only byte").wall("n").turns("n").is("undo(0) undo(0) undo(1) undo(1)", 0, NOT, 0, NOT);
    full(p, "the last byte of a full text").is("undo(0) undo(1) count(2) count(3)", 62, 58, 62, 58);
    full(p, "BAD where all is full").bounds("undo(@)", 0, 1, BAD);
    edge(p, "a byte that was a FAULT").wall("nx").is("fault(0) undo(0) fault(0) count(0)", 1, 1, NONE, 1);
    edge(p, "the last byte of a text with a FAULT ahead").wall("xn").is("undo(0) fault(0) undo(0) fault(0)", 1, 0, 0, NONE);
    edge(p, "the wall is empty again: no COLUMNS").wall(";").is("count(0) undo(0) count(0)", 2, 0, 0);
    undoneOneByOne(p, 0, FULL_WALL);
    undoneOneByOne(p, 1, "-1N1;n0n1N2;-0S0;s2");
  }

  /** Byte by byte down, all is as it was byte by byte up. */
  private static void undoneOneByOne(String p, int text, String all) {
    Edge x = edge(p, "all bytes of text " + text + " undone");
    if (text == 1) x.wall("nsN;S;nnnnnnnn");
    long[] digests = new long[all.length() + 1];
    for (int i = 0; i <= all.length(); i++) {
      digests[i] = x.ask("digest()");
      if (i < all.length()) x.then("type(" + text + "," + (int) all.charAt(i) + ")");
    }
    for (int i = all.length() - 1; i >= 0; i--) {
      x.is("undo(" + text + ")", i);
      x.due("the digest with " + i + " bytes", x.ask("digest()"), digests[i]);
    }
    x.is("undo(" + text + ")", NOT);
  }

  private static void wallFault(String sentence, String all, int want) {
    Edge x = edge("5 fault", sentence + " (the wall " + all.length() + " bytes)").wall(all).is("fault(0)", want);
    if (want != NONE) x.is("count(0) count(2)", 0, all.length());
  }

  private static void faultOfWall() {
    String p = "5 fault";
    middling(p, "text: one too small, one too large").bounds("fault(@)", 0, 1, BAD);
    edge(p, "BAD on a new object").bounds("fault(@)", 0, 1, BAD);
    full(p, "BAD where all is full").bounds("fault(@)", 0, 1, BAD);
    wallFault("an empty one is well", "", NONE);
    wallFault("a full one may be well", FULL_WALL, NONE);
    wallFault("COLUMNS, 8 at most: seven ;", ";;;;;;;", NONE);
    wallFault("an eighth ;", ";;;;;;;;", 7);
    wallFault("an eighth ; with STONES between", "n;s;N;S;n;s;N;S;", 15);
    wallFault("an eighth ; as the 63rd byte", "nnnnnnnn;".repeat(6) + "nnnnnnn;;", 62);
    wallFault("an eighth ; is the first, a ninth is not", ";;;;;;;;;", 7);
    wallFault("eight STONES of a COLUMN", "nsNSnsNS", NONE);
    wallFault("a ninth STONE", "nsNSnsNSn", 8);
    wallFault("a ninth STONE, a large one", "SSSSSSSSS", 8);
    wallFault("a ninth STONE of a COLUMN between", ";nnnnnnnnn;", 9);
    wallFault("a ninth STONE of the eighth COLUMN", ";;;;;;;nnnnnnnnn", 15);
    wallFault("a ninth STONE as the 63rd byte", "nnnnnnnn;".repeat(6) + "nnnnnnnnn", 62);
    wallFault("eight of one COLUMN, eight of the next", "nnnnnnnn;nnnnnnnn", NONE);
    wallFault("the first byte with which it cannot go on", "nxyz", 1);
    wallFault("at the very first", "xn", 0);
    wallFault("in a later COLUMN", "n;s;x", 4);
    wallFault("a figure is no STONE", "n0", 1);
    wallFault("a byte 0", "n\0", 1);
    wallFault("a byte 255", "n\377", 1);
    for (char c : "moMOrtRT:<- ".toCharArray()) wallFault("no STONE, one beside: " + (int) c, "n" + c, 1);
    for (char c : "nsNS;".toCharArray()) wallFault("a byte of 128 more than " + c, "n" + (char) (c + 128), 1);
    edge(p, "of one text, not of the other").wall("nx").turns("n0").is("fault(0) fault(1)", 1, NONE);
    edge(p, "of the other text, not of the one").wall("n").turns("n0x").is("fault(0) fault(1)", NONE, 2);
  }

  private static void turnsFault(String sentence, String all, int want) {
    Edge x = edge("5 fault", sentence + " (the turns " + all + ")").turns(all).is("fault(1)", want);
    if (want != NONE) x.is("count(1) count(3)", 0, all.length());
  }

  private static void faultOfTurns() {
    turnsFault("an empty one is well", "", NONE);
    turnsFault("a full one may be well", FULL_TURNS, NONE);
    for (int v = 0; v < 8; v++) turnsFault("a figure 0 to 7", "-" + v + "n" + v, NONE);
    for (char c : "/89:".toCharArray()) turnsFault("no figure 0 to 7, behind -", "-" + c + "n0", 1);
    for (char c : "/89:".toCharArray()) turnsFault("no figure 0 to 7, behind a letter", "n" + c, 1);
    for (char c : "/89:".toCharArray()) turnsFault("no figure 0 to 7, behind a third letter", "n0n1n" + c, 5);
    for (char c : "nsNS".toCharArray()) turnsFault("a letter", c + "0", NONE);
    for (char c : "moMOrtRT".toCharArray()) turnsFault("no letter, one beside", c + "0", 0);
    for (char c : "moMOrtRT".toCharArray()) turnsFault("no letter, one beside, behind a taken one", "-0" + c + "0", 2);
    turnsFault("none is laid: the ; comes too early", "-0;n0", 2);
    turnsFault("1 to 3 times: one", "n0", NONE);
    turnsFault("1 to 3 times: three", "n0s1N2", NONE);
    turnsFault("a fourth", "n0s1N2S3", 6);
    turnsFault("a fourth behind a taken one", "-7n0s1N2S3", 8);
    turnsFault("a fourth in the second turn", "n0;n0s1N2S3", 9);
    turnsFault("a second - in a turn", "-0-1n0", 2);
    turnsFault("a - behind a laid one", "n0-1", 2);
    turnsFault("an empty turn ahead", ";n0", 0);
    turnsFault("an empty turn between", "n0;;n0", 3);
    turnsFault("not ended: -", "-", 1);
    turnsFault("not ended: - and a figure", "-0", 2);
    turnsFault("not ended: a letter", "n", 1);
    turnsFault("not ended: a third letter", "n0n1n", 5);
    turnsFault("not ended: a ;", "n0;", 3);
    turnsFault("not ended, of 59 bytes", "n0n0n0;".repeat(8) + "n0;", 59);
    turnsFault("the 59th byte", "n0n0n0;".repeat(8) + "n0x", 58);
    turnsFault("12 at most: twelve", TWELVE, NONE);
    turnsFault("twelve and a ;: it is not ended", TWELVE + ";", 36);
    turnsFault("the first byte of a thirteenth: -", TWELVE + ";-", 36);
    turnsFault("the first byte of a thirteenth: a letter", TWELVE + ";n0", 36);
    turnsFault("the first byte of a thirteenth: whatever it is", TWELVE + ";x", 36);
    turnsFault("of twelve long ones", "-0n0n0;".repeat(6) + "s1;".repeat(5) + "s", 58);
    turnsFault("a byte 0", "\0", 0);
    turnsFault("a byte 255", "n0\377", 2);
    for (char c : "nsNS0-".toCharArray()) turnsFault("a byte of 128 more than " + c, "" + (char) (c + 128) + "0", 0);
  }

  private static void faultIsAsEmpty() {
    String p = "5 fault, with which a text is as if it was empty";
    edge(p, "the wall").wall("nnnn;x").turns("n0").then("sheet(0,0,2)").is("count(0) count(5) height(0,0) highest() "
        + "behind(0,0) first(0) mend(-1) frost(5,0) years(0,1,-1) write(0,0)", 0, 0, BAD, NONE, 0, NONE, 0, 1, BAD, 0);
    edge(p, "the turns do nothing then, but are there").wall("n;x").turns("n0").is("count(1) turn(0,2) count(6)", 1, 0, 0);
    edge(p, "the turns").wall("n").turns("n0;x").is("count(1) count(6) turn(0,0) height(0,0) height(1,0) who(0)", 0, 0, BAD, 1, BAD, 0);
    edge(p, "both").wall("x").turns("x").is("count(0) count(1) fault(0) fault(1)", 0, 0, 0, 0);
    edge(p, "not any more, with the byte undone").wall("nN;x").turns("n1;").then("undo(0) undo(1)")
        .is("count(0) count(1) height(1,0) height(1,1)", 2, 1, 3, 1);
  }

  private static void set() {
    String p = "6 set";
    int[] most = {1, 16, 9, 16, 16, 255};
    String[] names = {"BEGINS", "BOND", "PUSH", "BEARS", "LOW", "PEARS"};
    for (int what = 0; what < 6; what++) {
      String call = "set(" + what + ",";
      middling(p, names[what] + " is 0 to " + most[what]).bounds(call + "@)", 0, most[what], BAD);
      edge(p, names[what] + " on a new object").bounds(call + "@)", 0, most[what], BAD);
      edge(p, names[what] + ": what it was, the most and the least").then(call + most[what] + ")")
          .is(call + "0) " + call + "0) " + call + most[what] + ") " + call + "1)", most[what], 0, 0, most[what]);
      edge(p, names[what] + " alone is set").then(call + "1)").is("set(0,0) set(1,0) set(2,0) set(3,0) set(4,0) set(5,0)",
          what == 0 ? 1 : 0, what == 1 ? 1 : 3, what == 2 ? 1 : 0, what == 3 ? 1 : 6, what == 4 ? 1 : 4, what == 5 ? 1 : 255);
    }
    middling(p, "what: one too small, one too large").bounds("set(@,1)", 0, 5, BAD);
    full(p, "BAD where all is full").bounds("set(@,1)", 0, 5, BAD).bounds("set(0,@)", 0, 1, BAD).bounds("set(5,@)", 0, 255, BAD);
    edge(p, "it stays through wipe").wall("n").then("set(1,16) wipe(0) wipe(1) forget()").is("set(1,0)", 16);
  }
}
