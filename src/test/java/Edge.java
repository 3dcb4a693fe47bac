import java.lang.reflect.Constructor;
import java.lang.reflect.Method;
import java.util.ArrayList;
import java.util.HashMap;
import java.util.List;
import java.util.Map;

/** A test of one sentence of the document: a run of calls on a new object, told as a text, with what is due. */
final class Edge {
  static final int NONE = -1, BAD = -2, NOT = -3, FULL = -4;
  static final int NULL = -11, INDEX = -12, CAST = -13, STORE = -14, SIZE = -15;
  static final int MIN = Integer.MIN_VALUE, MAX = Integer.MAX_VALUE;
  static final long LONG_BAD = Long.MIN_VALUE + 2;

  /** An object is used for so many calls; what later ones answer is free, so no test may look at it. */
  private static final int MOST_CALLS = 512;
  private static final Map<String, Method> METHODS = new HashMap<>();
  private static final Constructor<?> MAKER = maker();

  private static int tests = 0;
  private static int wrong = 0;

  private final String title;
  private final List<String> history = new ArrayList<>();
  private final Used own = new Used();

  /** An object of the class under test, with its calls counted. */
  private static final class Used {
    private final Object x = anew();
    private int calls = 0;

    long call(String call) {
      if (++calls > MOST_CALLS) throw new IllegalStateException("a test makes more calls than are promised: " + call);
      int from = call.indexOf('(');
      Method method = METHODS.get(call.substring(0, from));
      String inside = call.substring(from + 1, call.length() - 1);
      String[] told = inside.isEmpty() ? new String[0] : inside.split(",");
      Object[] numbers = new Object[told.length];
      for (int i = 0; i < told.length; i++) numbers[i] = number(told[i]);
      try {
        return ((Number) method.invoke(x, numbers)).longValue();
      } catch (ReflectiveOperationException e) {
        throw new IllegalStateException(call, e);
      }
    }
  }

  private Edge(String title) { this.title = title; }

  /** A test on a new object. */
  static Edge edge(String promise, String sentence) {
    tests++;
    return new Edge(promise + ": " + sentence);
  }

  /** A test on an object of which everything holds something, and nothing is full. */
  static Edge middling(String promise, String sentence) {
    return edge(promise, sentence).wall("nsN;;S").turns("-2n1;-0s0S1").then("set(1,4) set(4,5) set(5,7) seen(1,1,1) "
        + "seen(2,0,3) sheet(0,0,3) lay(0,0,1,5) sheet(1,1,6) lay(1,1,5,300) sheet(2,2,2) lay(2,2,0,70000)")
        .is("get(2,2,2)", MIN);
  }

  /** A test on an object of which everything is full: both texts, columns, turns, what is seen, the sheets. */
  static Edge full(String promise, String sentence) {
    return edge(promise, sentence).wall("NNNNNNNN;SSSSSSSS;nnnnnnnn;ssssssss;NNNNNNNN;SSSSSSSS;nnnnnnnn;")
        .turns("-1N1;-0S0;-3N3;-2S2;-1n7;-0s7;-1N6;-6S5;-5N4;-4S4;-3N0;-2S1").then(" seen(12,7,2)".repeat(8))
        .then("sheet(0,0,60) sheet(1,1,60) sheet(2,2,60) sheet(3,2,60) lay(0,0,59,-1) lay(3,2,59,MAX)");
  }

  Edge wall(String all) { return typed(0, all); }
  Edge turns(String all) { return typed(1, all); }

  private Edge typed(int text, String all) {
    for (char c : all.toCharArray()) then("type(" + text + "," + (int) c + ")");
    return this;
  }

  /** Calls that only lead to what is tested: none of them may be refused. */
  Edge then(String calls) {
    for (String call : split(calls)) {
      long got = make(call);
      if (got <= BAD) tell(call + " on the way is refused: " + got);
    }
    return this;
  }

  /** A row of calls and what is due of each. */
  Edge is(String calls, long... want) {
    List<String> all = split(calls);
    if (all.size() != want.length) throw new IllegalStateException(title + ": " + all.size() + " calls, dues " + want.length);
    for (int i = 0; i < want.length; i++) {
      long got = make(all.get(i));
      if (got != want[i]) tell(all.get(i) + " answered " + got + ", due is " + want[i]);
    }
    return this;
  }

  /** A call whose answer a test works with itself. */
  long ask(String call) { return make(call); }

  /** What a test has worked out itself. */
  void due(String what, long got, long want) {
    if (got != want) tell(what + " is " + got + ", due is " + want);
  }

  /** A refused call: what it answers, and that all is as it was, but for the finding where it is one. */
  Edge refuses(String call, long want) {
    return refuses(call, want, want <= NULL && want >= SIZE ? (int) (-10 - want) : 0);
  }

  /** Likewise, where the answer itself does not tell the finding (0: there is none). */
  Edge refuses(String call, long want, int finding) {
    Used refused = again();
    Used spared = again();
    long got = refused.call(call);
    if (got != want) tell(call + " answered " + got + ", due is " + want);
    spared.call("count(7)"); // so that both have made as many calls
    long was = spared.call("count(8)");
    long due = finding == 0 ? was : finding;
    if (refused.call("count(8)") != due) tell(call + " leaves another finding than " + due);
    List<String> one = allOf(refused);
    List<String> other = allOf(spared);
    for (int i = 0; i < Math.max(one.size(), other.size()); i++) {
      String with = i < one.size() ? one.get(i) : "nothing";
      String without = i < other.size() ? other.get(i) : "nothing";
      if (!with.equals(without)) {
        tell(call + " is refused, but behind it " + with + ", without it " + without);
        break;
      }
    }
    return this;
  }

  /** A number (@) from the least to the most is taken; one too small, one too large, and the farthest are refused. */
  Edge bounds(String call, int least, int most, long refusal) {
    for (int v : new int[] {least, most}) {
      String one = call.replace("@", "" + v);
      if (again().call(one) == refusal) tell(one + " is refused");
    }
    for (int v : new int[] {least - 1, most + 1, MIN, MAX}) refuses(call.replace("@", "" + v), refusal);
    return this;
  }

  /** The last line of each file of tests. */
  static void end() {
    System.out.println(wrong == 0 ? tests + " edges hold" : wrong + " things are not as due");
    if (wrong != 0) System.exit(1);
  }

  // ---- how it is done

  private void tell(String what) {
    wrong++;
    System.out.println(title + ": " + what);
  }

  private long make(String call) {
    history.add(call);
    return own.call(call);
  }

  /** Another object with the same calls behind it. */
  private Used again() {
    Used twin = new Used();
    for (String call : history) twin.call(call);
    return twin;
  }

  /** All that can be told of an object, as far as its calls go; the object is spent with it. */
  private static List<String> allOf(Used of) {
    List<String> all = new ArrayList<>();
    for (int what = 0; what <= 7; what++) ask(of, all, "count(" + what + ")");
    for (int s = 0; s < 4; s++) askSheet(of, all, s);
    ask(of, all, "digest()");
    int columns = (int) ask(of, all, "count(0)");
    int turns = (int) ask(of, all, "count(1)");
    for (int t = 0; t <= turns; t++) {
      for (int what = 0; what < 2; what++) ask(of, all, "behind(" + t + "," + what + ")");
      for (int c = 0; c < columns; c++) ask(of, all, "height(" + t + "," + c + ")");
    }
    for (int what = 0; what < 3; what++) ask(of, all, "who(" + what + ")");
    ask(of, all, "forget()");
    for (int what = 0; what < 6; what++) ask(of, all, "set(" + what + ",0)");
    int empty = 0;
    for (int i = 0; empty < 2 && of.calls < MOST_CALLS - 2; i++) {
      empty = ask(of, all, "undo(" + (i & 1) + ")") == NOT ? empty + 1 : 0;
      if (i % 4 == 3) ask(of, all, "digest()");
    }
    return all;
  }

  private static long ask(Used of, List<String> all, String call) {
    long got = of.call(call);
    all.add(call + " answers " + got);
    return got;
  }

  /** The form of a sheet is told by the finding about an item that no sheet has. */
  private static void askSheet(Used of, List<String> all, int s) {
    for (int form = 0; form < 3; form++) {
      ask(of, all, "get(" + s + "," + form + ",-1)");
      if (ask(of, all, "count(8)") != 2) continue;
      for (int i : new int[] {0, 1, 2, 3, 5, 58, 59}) ask(of, all, "get(" + s + "," + form + "," + i + ")");
      return;
    }
  }

  private static List<String> split(String calls) {
    return List.of(calls.trim().split("\\s+"));
  }

  private static int number(String told) {
    return told.equals("MIN") ? MIN : told.equals("MAX") ? MAX : Integer.parseInt(told);
  }

  private static Object anew() {
    try {
      return MAKER.newInstance();
    } catch (ReflectiveOperationException e) {
      throw new IllegalStateException(e);
    }
  }

  /** The tests may be looked at themselves by -Dkind=Model. */
  private static Constructor<?> maker() {
    try {
      Class<?> kind = Class.forName(System.getProperty("kind", "WallTurns"));
      for (Method m : WallTurns.class.getMethods()) {
        if (m.getDeclaringClass() == WallTurns.class) METHODS.put(m.getName(), kind.getMethod(m.getName(), m.getParameterTypes()));
      }
      return kind.getDeclaredConstructor();
    } catch (ReflectiveOperationException e) {
      throw new IllegalStateException(e);
    }
  }
}
