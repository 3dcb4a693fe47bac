import java.math.BigInteger;
import java.util.ArrayList;
import java.util.Arrays;
import java.util.HashMap;
import java.util.List;
import java.util.Map;
import java.util.regex.Matcher;
import java.util.regex.Pattern;

/** The document once more, written another way: columns are strings, and every answer is worked out anew. */
public final class Model {
  private static final String TURN = "(?:-[0-7])?(?:[nsNS][0-7]){1,3}";
  private static final Pattern WALL_BEGUN = Pattern.compile("[nsNS]{0,8}(?:;[nsNS]{0,8}){0,7}");
  private static final Pattern TURNS_BEGUN = Pattern.compile("(?:" + TURN + "(?:;" + TURN + "){0,11};?)?");
  private static final Pattern TURNS_ENDED = Pattern.compile("(?:" + TURN + "(?:;" + TURN + "){0,11})?");
  private static final int[] MOST = {1, 16, 9, 16, 16, 255};
  private static final int[] LIMITS = {63, 59};

  private final StringBuilder[] texts = {new StringBuilder(), new StringBuilder()};
  private final int[] rules = {0, 3, 0, 6, 4, 255};
  private final List<int[]> sights = new ArrayList<>();
  private final long[][] sheets = new long[4][];
  private final int[] forms = new int[4];
  private int finding = 0;

  private static boolean in(int v, int least, int most) { return least <= v && v <= most; }

  // ---- texts

  public int type(int text, int b) {
    if (!in(text, 0, 1) || !in(b, 0, 255)) return -2;
    if (texts[text].length() == LIMITS[text]) return -4;
    texts[text].append((char) b);
    return texts[text].length();
  }

  public int wipe(int text) {
    if (!in(text, 0, 1)) return -2;
    int had = texts[text].length();
    texts[text].setLength(0);
    return had;
  }

  public int undo(int text) {
    if (!in(text, 0, 1)) return -2;
    int had = texts[text].length();
    if (had == 0) return -3;
    texts[text].setLength(had - 1);
    return had - 1;
  }

  public int fault(int text) {
    if (!in(text, 0, 1)) return -2;
    String all = texts[text].toString();
    Pattern begun = text == 0 ? WALL_BEGUN : TURNS_BEGUN;
    for (int i = 1; i <= all.length(); i++) {
      Matcher m = begun.matcher(all.substring(0, i));
      if (!m.matches() && !m.hitEnd()) return i - 1;
    }
    return text == 0 || TURNS_ENDED.matcher(all).matches() ? -1 : all.length();
  }

  public int set(int what, int v) {
    if (!in(what, 0, 5) || !in(v, 0, MOST[what])) return -2;
    int was = rules[what];
    rules[what] = v;
    return was;
  }

  // ---- the wall as a row of strings

  private String[] start() {
    String all = texts[0].toString();
    return fault(0) != -1 || all.isEmpty() ? new String[0] : all.split(";", -1);
  }

  private String[] turns() {
    String all = texts[1].toString();
    return fault(1) != -1 || all.isEmpty() ? new String[0] : all.split(";", -1);
  }

  private static int weight(char c) { return Character.isUpperCase(c) ? 2 : 1; }
  private static int owner(char c) { return Character.toLowerCase(c) == 'n' ? 0 : 1; }
  private static char last(String s) { return s.charAt(s.length() - 1); }
  private static int high(String column) { return column.chars().map(c -> weight((char) c)).sum(); }
  private static int weightOf(String column, int brother) {
    return column.chars().filter(c -> owner((char) c) == brother).map(c -> weight((char) c)).sum();
  }

  private static boolean laid(String[] wall, int column, char c) {
    if (column >= wall.length || wall[column].length() == 8) return false;
    wall[column] += c;
    return true;
  }

  private static boolean taken(String[] wall, int column, int brother) {
    if (column >= wall.length || wall[column].isEmpty() || owner(last(wall[column])) == brother) return false;
    wall[column] = wall[column].substring(0, wall[column].length() - 1);
    return true;
  }

  /** What a turn did: whether it took one, how many it laid. */
  private static int[] done(String[] wall, String turn, int brother, boolean takes, boolean lays) {
    int[] did = new int[2];
    int at = 0;
    if (turn.charAt(0) == '-') {
      if (takes && taken(wall, turn.charAt(1) - '0', brother)) did[0] = 1;
      at = 2;
    }
    for (; lays && at < turn.length(); at += 2) {
      char c = turn.charAt(at);
      if (owner(c) == brother && laid(wall, turn.charAt(at + 1) - '0', c)) did[1]++;
    }
    return did;
  }

  private String[] behindSoMany(int many) {
    String[] wall = start();
    String[] turns = turns();
    for (int t = 0; t < many; t++) done(wall, turns[t], (rules[0] + t) % 2, true, true);
    return wall;
  }

  private String[] behindAll() { return behindSoMany(turns().length); }

  private boolean weak(String[] wall, int column) {
    int left = column == 0 ? 0 : high(wall[column - 1]);
    int right = column == wall.length - 1 ? 0 : high(wall[column + 1]);
    int leans = Math.abs(weightOf(wall[column], 0) - weightOf(wall[column], 1));
    return high(wall[column]) > Math.max(left, right) + rules[1] - rules[2] || leans > rules[3];
  }

  private boolean stands(String[] wall) {
    for (int c = 0; c < wall.length; c++) if (weak(wall, c)) return false;
    return true;
  }

  private int sun(String[] wall) {
    int many = 0;
    for (int c = 0; c < wall.length; c++) if ((rules[5] & 1 << c) != 0 && high(wall[c]) <= rules[4]) many++;
    return many;
  }

  // ---- behind turns

  private boolean noSuch(int turns, int column) {
    return !in(turns, 0, turns().length) || !in(column, 0, start().length - 1);
  }

  public int height(int turns, int column) { return noSuch(turns, column) ? -2 : high(behindSoMany(turns)[column]); }

  public int lean(int turns, int column) {
    if (noSuch(turns, column)) return -1002;
    String of = behindSoMany(turns)[column];
    return weightOf(of, 0) - weightOf(of, 1);
  }

  public int stone(int turns, int column, int i) {
    if (noSuch(turns, column) || !in(i, -1, 7)) return -2;
    String of = behindSoMany(turns)[column];
    return i == -1 ? of.length() : i < of.length() ? "nsNS".indexOf(of.charAt(i)) : -1;
  }

  public int behind(int turns, int what) {
    if (!in(turns, 0, turns().length) || !in(what, 0, 3)) return -2;
    String[] wall = behindSoMany(turns);
    if (what == 1) return sun(wall);
    int all = 0;
    for (int c = 0; c < wall.length; c++) all += what > 1 ? weightOf(wall[c], what - 2) : weak(wall, c) ? 1 << c : 0;
    return all;
  }

  private int[] didTurn(int turn) {
    return done(behindSoMany(turn), turns()[turn], (rules[0] + turn) % 2, true, true);
  }

  public int turn(int turn, int what) {
    if (!in(turn, 0, turns().length - 1) || !in(what, 0, 2)) return -2;
    return what == 0 ? (rules[0] + turn) % 2 : didTurn(turn)[what - 1];
  }

  public int first(int what) {
    if (!in(what, 0, 1)) return -2;
    for (int t = 0; t <= turns().length; t++) {
      String[] wall = behindSoMany(t);
      for (int c = 0; c < wall.length; c++) if (weak(wall, c)) return what == 0 ? t : c;
    }
    return -1;
  }

  public int highest() {
    String[] wall = behindAll();
    int most = Arrays.stream(wall).mapToInt(Model::high).max().orElse(-1);
    for (int c = 0; c < wall.length; c++) if (high(wall[c]) == most) return c;
    return -1;
  }

  // ---- plans

  private static final Map<List<Integer>, List<int[]>> ROWS = new HashMap<>();

  /** All rows of so many numbers, none less than the one ahead, the least row first. */
  private static List<int[]> rows(int many, int numbers) {
    return ROWS.computeIfAbsent(List.of(many, numbers), key -> rowsAnew(many, numbers));
  }

  private static List<int[]> rowsAnew(int many, int numbers) {
    List<int[]> all = new ArrayList<>();
    int total = (int) Math.pow(numbers, many);
    for (int code = 0; code < total; code++) {
      int[] row = new int[many];
      int rest = code;
      for (int k = many - 1; k >= 0; k--) { row[k] = rest % numbers; rest /= numbers; }
      boolean rising = true;
      for (int k = 1; k < many; k++) rising &= row[k - 1] <= row[k];
      if (rising) all.add(row);
    }
    return all;
  }

  private static int told(int[] row, int i) { return row == null ? -1 : i == -1 ? row.length : i < row.length ? row[i] : -1; }

  public int mend(int i) {
    if (!in(i, -1, 2)) return -2;
    for (int many = 0; many <= 3; many++) {
      for (int[] row : rows(many, 16)) {
        String[] wall = behindAll();
        boolean can = true;
        for (int number : row) can &= laid(wall, number % 8, number < 8 ? 'n' : 's');
        if (can && stands(wall)) return told(row, i);
      }
    }
    return -1;
  }

  public int open(int pears, int i) {
    if (!in(pears, 0, 8) || !in(i, -1, 2)) return -2;
    for (int many = 0; many <= 3; many++) {
      for (int[] row : rows(many, 8)) {
        String[] wall = behindAll();
        boolean can = true;
        for (int column : row) can = can && (taken(wall, column, 0) || taken(wall, column, 1));
        if (can && stands(wall) && sun(wall) >= pears) return told(row, i);
      }
    }
    return -1;
  }

  private int worth(String[] wall, int left, int brother) {
    if (left == 0) return stands(wall) ? sun(wall) : -1;
    List<Integer> all = new ArrayList<>();
    for (int move = 0; move <= 8; move++) {
      String[] next = wall.clone();
      if (move == 8 || laid(next, move, "ns".charAt(brother))) all.add(worth(next, left - 1, 1 - brother));
    }
    return brother == 0 ? all.stream().max(Integer::compare).get() : all.stream().min(Integer::compare).get();
  }

  public int sides(int n, int what) {
    if (!in(n, 1, 3) || !in(what, 0, 1)) return -2;
    int brother = (rules[0] + turns().length) % 2;
    int all = worth(behindAll(), n, brother);
    if (what == 0) return all;
    for (int move = 0; move < 8; move++) {
      String[] next = behindAll();
      if (laid(next, move, "ns".charAt(brother)) && worth(next, n - 1, 1 - brother) == all) return move;
    }
    return 8;
  }

  // ---- seen, frost, years

  public int seen(int turns, int column, int height) {
    if (!in(turns, 0, 12) || !in(column, 0, 7) || !in(height, 0, 16)) return -2;
    if (sights.size() == 8) return -4;
    sights.add(new int[] {turns, column, height});
    return sights.size();
  }

  public int forget() {
    int had = sights.size();
    sights.clear();
    return had;
  }

  public int read(int s) {
    if (!in(s, 0, 3)) return -2;
    if (sheets[s] == null) return find(1);
    int came = 0;
    while (3 * came + 3 <= sheets[s].length) {
      int at = 3 * came;
      if (seen((int) sheets[s][at], (int) sheets[s][at + 1], (int) sheets[s][at + 2]) < 0) break;
      came++;
    }
    return came;
  }

  public int who(int what) {
    if (!in(what, 0, 2)) return -2;
    String[] turns = turns();
    int bits = 0;
    for (int odd = 0; odd < turns.length; odd++) {
      List<String[]> walls = new ArrayList<>();
      walls.add(start());
      for (int t = 0; t < turns.length; t++) {
        String[] wall = walls.get(t).clone();
        int by = t == odd && what == 2 ? 1 - (rules[0] + t) % 2 : (rules[0] + t) % 2;
        done(wall, turns[t], by, t != odd || what != 0, t != odd || what != 1);
        walls.add(wall);
      }
      boolean all = sights.stream().allMatch(x ->
          x[0] < walls.size() && x[1] < walls.get(x[0]).length && high(walls.get(x[0])[x[1]]) == x[2]);
      if (all) bits += 1 << odd;
    }
    return bits;
  }

  public long frost(int c, int what) {
    if (!in(c, 0, 16) || !in(what, 0, 1)) return Long.MIN_VALUE + 2;
    String[] wall = behindAll();
    BigInteger above = BigInteger.ZERO;
    BigInteger below = BigInteger.ONE;
    for (String column : wall) if (!column.isEmpty()) below = below.shiftLeft(4);
    for (int lost = 0; lost < 1 << wall.length; lost++) {
      String[] then = wall.clone();
      BigInteger ways = BigInteger.ONE;
      boolean can = true;
      for (int k = 0; k < wall.length; k++) {
        boolean loses = (lost & 1 << k) != 0;
        if (wall[k].isEmpty()) { can &= !loses; continue; }
        if (loses) then[k] = wall[k].substring(0, wall[k].length() - 1);
        ways = ways.multiply(BigInteger.valueOf(loses ? c : 16 - c));
      }
      if (can && stands(then)) above = above.add(ways);
    }
    BigInteger common = above.gcd(below);
    return (what == 0 ? above : below).divide(common).longValueExact();
  }

  public int years(int seed, int n, int column) {
    String[] wall = behindAll();
    if (!in(n, 1, 40) || wall.length == 0 || !in(column, -1, wall.length - 1)) return -2;
    BigInteger now = BigInteger.valueOf(seed);
    int fallen = 0;
    for (int year = 0; year < n; year++) {
      int brother = (rules[0] + turns().length + year) % 2;
      now = next(now);
      int at = lot(now, wall.length);
      now = next(now);
      if (lot(now, 4) == 0) taken(wall, at, brother); else laid(wall, at, "ns".charAt(brother));
      if (!stands(wall)) fallen++;
    }
    return column == -1 ? fallen : high(wall[column]);
  }

  private static BigInteger next(BigInteger seed) {
    return seed.multiply(BigInteger.valueOf(1103515245L)).add(BigInteger.valueOf(12345)).mod(BigInteger.ONE.shiftLeft(32));
  }

  private static int lot(BigInteger seed, int m) { return seed.shiftRight(16).intValueExact() % m; }

  // ---- sheets

  private int find(int number) {
    finding = number;
    return -10 - number;
  }

  private static long cut(int form, int v) {
    int bits = form == 0 ? 8 : form == 1 ? 16 : 32;
    long low = v & (1L << bits) - 1;
    return low >= 1L << bits - 1 ? low - (1L << bits) : low;
  }

  public int sheet(int s, int form, int n) {
    if (!in(s, 0, 3) || !in(form, 0, 2) || n > 60) return -2;
    if (n < 0) return find(5);
    sheets[s] = new long[n];
    forms[s] = form;
    return n;
  }

  public int lose(int s) {
    if (!in(s, 0, 3)) return -2;
    if (sheets[s] == null) return find(1);
    int had = sheets[s].length;
    sheets[s] = null;
    return had;
  }

  private int cannot(int s, int form, int i) {
    if (!in(s, 0, 3) || !in(form, 0, 2)) return -2;
    if (sheets[s] == null) return find(1);
    if (forms[s] != form) return find(3);
    return in(i, 0, sheets[s].length - 1) ? 0 : find(2);
  }

  public int lay(int s, int form, int i, int v) {
    int no = cannot(s, form, i);
    if (no != 0) return no;
    sheets[s][i] = cut(form, v);
    return 1;
  }

  public int get(int s, int form, int i) { return cannot(s, form, i) != 0 ? Integer.MIN_VALUE : (int) sheets[s][i]; }

  public int copy(int s, int i, int t, int j, int n) {
    if (!in(s, 0, 3) || !in(t, 0, 3)) return -2;
    if (sheets[s] == null || sheets[t] == null) return find(1);
    if (forms[s] != forms[t]) return find(4);
    if (i < 0 || j < 0 || n < 0 || (long) i + n > sheets[s].length || (long) j + n > sheets[t].length) return find(2);
    long[] were = sheets[s].clone();
    for (int k = 0; k < n; k++) sheets[t][j + k] = were[i + k];
    return 1;
  }

  public int write(int turns, int s) {
    if (!in(turns, 0, turns().length) || !in(s, 0, 3)) return -2;
    if (sheets[s] == null) return find(1);
    String[] wall = behindSoMany(turns);
    int many = 0;
    for (; many < wall.length && many < sheets[s].length; many++) sheets[s][many] = cut(forms[s], high(wall[many]));
    return many;
  }

  public int count(int what) {
    int busy = 0;
    for (int t = 0; t < turns().length; t++) if (didTurn(t)[0] + didTurn(t)[1] > 0) busy++;
    int stones = String.join("", behindAll()).length();
    int[] all = {start().length, turns().length, texts[0].length(), texts[1].length(), sights.size(), stones, busy,
        rules[2], finding};
    return in(what, 0, 8) ? all[what] : -2;
  }

  public long digest() {
    List<Long> all = new ArrayList<>();
    for (int what = 0; what < 8; what++) all.add((long) count(what));
    all.add((long) fault(0));
    all.add((long) fault(1));
    int end = turns().length;
    for (int c = 0; c < start().length; c++) {
      for (int t : new int[] {0, end}) {
        for (int v : new int[] {height(t, c), lean(t, c), stone(t, c, -1), stone(t, c, 0)}) all.add((long) v);
      }
    }
    for (int t = 0; t < end; t++) for (int what = 0; what < 3; what++) all.add((long) turn(t, what));
    for (int t : new int[] {0, end}) for (int what = 0; what < 4; what++) all.add((long) behind(t, what));
    for (int c = 0; c < start().length; c++) all.add((long) years(7, 9, c));
    for (int v : new int[] {first(0), first(1), highest(), mend(-1), mend(0), open(3, -1), open(3, 0), sides(2, 0),
        sides(2, 1), who(0), who(1), who(2)}) all.add((long) v);
    all.add(frost(5, 0));
    all.add(frost(5, 1));
    all.add((long) years(7, 9, -1));
    BigInteger h = BigInteger.valueOf(17);
    for (long v : all) h = h.multiply(BigInteger.valueOf(31)).add(BigInteger.valueOf(v));
    return h.longValue();
  }
}
