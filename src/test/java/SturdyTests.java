import java.lang.reflect.InvocationTargetException;
import java.lang.reflect.Method;
import java.lang.reflect.Modifier;
import java.util.Arrays;
import java.util.Comparator;
import java.util.List;
import java.util.Random;

/** No call ever throws, whatever the numbers are and whatever stands in the texts. */
public final class SturdyTests {
  private static final int[] NUMBERS = {Integer.MIN_VALUE, Integer.MIN_VALUE + 1, -1000, -3, -2, -1, 0, 1, 2, 3, 4, 5, 6,
      7, 8, 9, 12, 13, 16, 17, 40, 41, 59, 60, 61, 63, 64, 255, 256, 65535, Integer.MAX_VALUE - 1, Integer.MAX_VALUE};
  private static final int MOST_CALLS = 512;
  private static final String BYTES = "nsNSnsNS;;-01234567x";

  public static void main(String[] args) throws Exception {
    Random random = new Random(11);
    List<Method> all = Arrays.stream(WallTurns.class.getDeclaredMethods())
        .filter(m -> Modifier.isPublic(m.getModifiers())).sorted(Comparator.comparing(Method::getName)).toList();
    for (int run = 0; run < 300; run++) {
      WallTurns x = new WallTurns();
      int calls = run % 3 == 0 ? typeWellOnes(x) : typeAny(x, run, random);
      for (int i = calls; i < MOST_CALLS; i++) {
        Method of = all.get(random.nextInt(all.size()));
        boolean shortens = of.getName().equals("wipe") || of.getName().equals("undo");
        // what is wiped away early tells nothing further on
        if (!shortens || i > MOST_CALLS - 100) tryOne(x, of, random);
      }
    }
    System.out.println("no call throws");
  }

  /** Texts that most often have a fault; how many calls it takes. */
  private static int typeAny(WallTurns x, int run, Random random) {
    int bytes = 20 + random.nextInt(130);
    for (int i = 0; i < bytes; i++) x.type(random.nextInt(2), BYTES.charAt(random.nextInt(run % 2 == 0 ? 10 : BYTES.length())));
    return bytes;
  }

  /** Both texts to the last byte, well; how many calls it takes. */
  private static int typeWellOnes(WallTurns x) {
    for (char c : ("nsNSnsn;".repeat(7) + "NSsnnNS").toCharArray()) x.type(0, c);
    for (char c : ("-0n1;-7S0;".repeat(5) + "N3n4;s0S7").toCharArray()) x.type(1, c);
    return x.count(2) + x.count(3) + 2;
  }

  private static void tryOne(WallTurns x, Method of, Random random) throws Exception {
    Object[] with = new Object[of.getParameterCount()];
    for (int k = 0; k < with.length; k++) with[k] = NUMBERS[random.nextInt(random.nextBoolean() ? NUMBERS.length : 12)];
    try {
      of.invoke(x, with);
    } catch (InvocationTargetException e) {
      System.out.println(of.getName() + Arrays.toString(with) + " threw " + e.getCause());
      System.exit(1);
    }
  }
}
