import java.lang.reflect.Constructor;
import java.lang.reflect.Field;
import java.lang.reflect.Method;
import java.lang.reflect.Modifier;
import java.nio.file.Files;
import java.nio.file.Path;
import java.util.ArrayList;
import java.util.Arrays;
import java.util.HashSet;
import java.util.List;
import java.util.Set;
import java.util.TreeSet;
import java.util.regex.Matcher;
import java.util.regex.Pattern;

/** The face is the document's, no more and no less, and the file keeps to what LANGUAGE.md leaves. */
public final class FaceTests {
  private static final String[] METHODS = {"int type(int, int)", "int wipe(int)", "int undo(int)", "int fault(int)",
      "int set(int, int)", "int height(int, int)", "int lean(int, int)", "int stone(int, int, int)",
      "int behind(int, int)", "int turn(int, int)", "int first(int)", "int highest()", "int mend(int)",
      "int open(int, int)", "int sides(int, int)", "int seen(int, int, int)", "int forget()", "int read(int)",
      "int who(int)", "long frost(int, int)", "int years(int, int, int)", "int sheet(int, int, int)", "int lose(int)",
      "int lay(int, int, int, int)", "int get(int, int, int)", "int copy(int, int, int, int, int)",
      "int write(int, int)", "int count(int)", "long digest()"};
  private static final String[] FORBIDDEN = {"throw", "try", "catch", "synchronized", "assert", "import", "package",
      "interface", "enum", "record", "while", "instanceof", "System\\.(?!arraycopy\\()", "->", "::", "\\w+Exact\\(",
      "Object", "String", "Integer\\.", "Long\\.", "Arrays", "Random", "equals", "hashCode", "toString"};

  private static int wrong = 0;

  private static void hold(boolean so, String what) {
    if (!so) {
      wrong++;
      System.out.println(what);
    }
  }

  public static void main(String[] args) throws Exception {
    members();
    inside();
    String source = Files.readString(Path.of("src/main/java/WallTurns.java"));
    String code = source.replaceAll("(?s)/\\*.*?\\*/|//[^\n]*", "");
    words(source, code);
    lengths(code);
    System.out.println(wrong == 0 ? "the face is the document's" : wrong + " things are not as due");
    if (wrong != 0) System.exit(1);
  }

  private static void members() throws Exception {
    Class<?> kind = WallTurns.class;
    hold(Modifier.isPublic(kind.getModifiers()) && Modifier.isFinal(kind.getModifiers()), "it is public and final");
    Constructor<?>[] makers = kind.getDeclaredConstructors();
    hold(makers.length == 1 && makers[0].getParameterCount() == 0 && Modifier.isPublic(makers[0].getModifiers()),
        "one public constructor");
    Set<String> got = new TreeSet<>();
    Set<String> names = new HashSet<>();
    for (Method m : kind.getDeclaredMethods()) {
      if (Modifier.isPrivate(m.getModifiers())) continue;
      hold(m.getModifiers() == Modifier.PUBLIC, m + " is just public");
      String with = String.join(", ", Arrays.stream(m.getParameterTypes()).map(Class::getName).toList());
      got.add(m.getReturnType().getName() + " " + m.getName() + "(" + with + ")");
      names.add(m.getName());
    }
    hold(got.equals(new TreeSet<>(List.of(METHODS))), "the methods are " + got);
    for (Class<?> of : withInside()) {
      for (Method m : of.getDeclaredMethods()) {
        hold(of == kind && Modifier.isPublic(m.getModifiers()) || !names.contains(m.getName()), m + " has a name of the face");
      }
    }
    Set<String> constants = new TreeSet<>();
    for (Field f : kind.getDeclaredFields()) {
      if (Modifier.isPrivate(f.getModifiers())) continue;
      hold(f.getModifiers() == (Modifier.PUBLIC | Modifier.STATIC | Modifier.FINAL), f + " is a constant");
      constants.add(f.getName() + f.getInt(null));
    }
    hold(constants.equals(Set.of("NONE-1", "BAD-2", "NOT-3", "FULL-4")), "the constants are " + constants);
  }

  private static List<Class<?>> withInside() {
    List<Class<?>> all = new ArrayList<>(List.of(WallTurns.class));
    all.addAll(List.of(WallTurns.class.getDeclaredClasses()));
    return all;
  }

  private static void inside() {
    hold(withInside().size() <= 12, "at most twelve classes");
    for (Class<?> of : withInside()) {
      int fields = 0;
      for (Field f : of.getDeclaredFields()) {
        if (!Modifier.isStatic(f.getModifiers())) fields++;
        else hold(Modifier.isFinal(f.getModifiers()), f + " is final");
      }
      hold(fields <= 20, of + " has at most twenty fields");
      if (of == WallTurns.class) continue;
      hold(Modifier.isStatic(of.getModifiers()) && Modifier.isPrivate(of.getModifiers()), of + " is private and static");
      for (Method m : of.getDeclaredMethods()) hold(m.getParameterCount() <= 7, m + " takes at most seven");
    }
  }

  private static void words(String source, String code) {
    for (String word : FORBIDDEN) {
      String whole = word.matches("[a-zA-Z]+") ? "\\b" + word + "\\b" : word;
      Matcher m = Pattern.compile(whole).matcher(code);
      hold(!m.find(), "the program has no " + word);
    }
    hold(source.chars().allMatch(c -> c < 128), "signs up to 127 alone");
    hold(!Pattern.compile("\\bfor \\([^;]*:").matcher(code).find(), "loops are by index");
    Matcher loops = Pattern.compile("for \\([^;]*;([^;]*);").matcher(code);
    while (loops.find()) hold(loops.group(1).contains("<"), "a loop has a bound: " + loops.group());
  }

  private static void lengths(String code) {
    int start = -1;
    String[] lines = code.split("\n");
    for (int i = 0; i < lines.length; i++) {
      if (lines[i].matches("(    ){1,2}\\S.*\\) \\{")) start = i;
      if (start >= 0 && lines[i].matches("(    ){1,2}\\}")) {
        hold(i - start < 60, "a method is short: " + lines[start].trim());
        start = -1;
      }
    }
  }
}
