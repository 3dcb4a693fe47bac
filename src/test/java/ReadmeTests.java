import java.lang.reflect.Method;
import java.nio.file.Files;
import java.nio.file.Path;
import java.util.List;
import java.util.Set;
import java.util.TreeSet;
import java.util.regex.Matcher;
import java.util.regex.Pattern;

/** What README.md tells is so: each call in its examples answers what stands behind it, and each call has its row. */
public final class ReadmeTests {
  private static final Pattern CALL = Pattern.compile("x\\.(\\w+)\\(([-\\d, ]*)\\)\\)?;\\s*// (-?\\d+)(?:,.*)?");
  private static final Pattern TYPED = Pattern.compile("for \\(char c : \"([^\"]*)\"(.*)\\.toCharArray\\(\\)\\) x\\.type\\((\\d), c\\);.*");
  private static final Pattern ROW = Pattern.compile("\\| `(\\w+)\\(([\\w, ]*)\\)` \\|.*\\|");

  private static WallTurns x = new WallTurns();
  private static int calls = 0;
  private static int looked = 0;
  private static int wrong = 0;

  public static void main(String[] args) throws Exception {
    List<String> lines = Files.readAllLines(Path.of("README.md"));
    boolean inside = false;
    for (String line : lines) {
      if (line.startsWith("```")) inside = line.equals("```java");
      else if (inside) look(line.trim());
    }
    if (looked < 50) tell("there are only " + looked + " answers in it");
    rows(lines);
    System.out.println(wrong == 0 ? "README.md tells what is so" : wrong + " things in README.md are not so");
    if (wrong != 0) System.exit(1);
  }

  private static void look(String line) throws Exception {
    Matcher typed = TYPED.matcher(line);
    Matcher call = CALL.matcher(line.replace("System.out.println(", ""));
    if (line.contains("new WallTurns()")) {
      x = new WallTurns();
      calls = 0;
    } else if (typed.matches()) {
      String all = typed.group(2).isEmpty() ? typed.group(1) : "-1".repeat(29) + "-";
      for (char c : all.toCharArray()) x.type(Integer.parseInt(typed.group(3)), c);
      calls += all.length();
    } else if (call.matches()) {
      looked++;
      String got = String.valueOf(answer(call.group(1), call.group(2)));
      if (!got.equals(call.group(3))) tell(line + " - it answers " + got);
    } else if (line.contains("x.")) {
      tell("no answer stands behind " + line);
    }
    if (calls > 512) tell("more than 512 calls of one object: " + line);
  }

  private static Object answer(String name, String told) throws Exception {
    calls++;
    String[] parts = told.isBlank() ? new String[0] : told.split(", ");
    Object[] with = new Object[parts.length];
    for (int k = 0; k < parts.length; k++) with[k] = Integer.parseInt(parts[k]);
    return methodOf(name).invoke(x, with);
  }

  private static Method methodOf(String name) {
    for (Method m : WallTurns.class.getMethods()) if (m.getName().equals(name)) return m;
    throw new IllegalStateException("README.md has a call that there is not: " + name);
  }

  /** Each call of the face has one row in the tables, with as many numbers as it takes. */
  private static void rows(List<String> lines) {
    Set<String> told = new TreeSet<>();
    for (String line : lines) {
      Matcher row = ROW.matcher(line);
      if (!row.matches()) continue;
      int many = row.group(2).isEmpty() ? 0 : row.group(2).split(", ").length;
      if (methodOf(row.group(1)).getParameterCount() != many) tell("not so many numbers: " + line);
      if (!told.add(row.group(1))) tell("told twice: " + line);
    }
    for (Method m : WallTurns.class.getMethods()) {
      if (m.getDeclaringClass() == WallTurns.class && !told.contains(m.getName())) tell("no row for " + m.getName());
    }
  }

  private static void tell(String what) {
    wrong++;
    System.out.println(what);
  }
}
