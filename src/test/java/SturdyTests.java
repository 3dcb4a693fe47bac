import java.lang.reflect.InvocationTargetException;
import java.lang.reflect.Method;
import java.lang.reflect.Modifier;
import java.util.Arrays;
import java.util.Comparator;
import java.util.List;
import java.util.Random;

/** No call ever throws, whatever the numbers are and whatever stands in the texts. */
public final class SturdyTests {
  private static final int[] NUMBERS = {Integer.MIN_VALUE, Integer.MIN_VALUE + 1, -1000, -3, -2, -1, 0, 1, 2, 3, 4, 5, 6,
      7, 8, 9, 12, 13, 16, 17, 40, 41, 59, 60, 61, 63, 64, 255, 256, 65535, Integer.MAX_VALUE - 1, Integer.MAX_VALUE};
  private static final String BYTES = "nsNSnsNS;;-01234567x";

  public static void main(String[] args) throws Exception {
    Random random = new Random(11);
    List<Method> all = Arrays.stream(WallTurns.class.getDeclaredMethods())
        .filter(m -> Modifier.isPublic(m.getModifiers())).sorted(Comparator.comparing(Method::getName)).toList();
    for (int run = 0; run < 300; run++) {
      WallTurns x = new WallTurns();
      for (int i = 0; i < 60; i++) x.type(random.nextInt(2), BYTES.charAt(random.nextInt(run % 2 == 0 ? 10 : BYTES.length())));
      for (int i = 0; i < 400; i++) tryOne(x, all.get(random.nextInt(all.size())), random);
    }
    System.out.println("no call throws");
  }

  private static void tryOne(WallTurns x, Method of, Random random) throws Exception {
    Object[] with = new Object[of.getParameterCount()];
    for (int k = 0; k < with.length; k++) with[k] = NUMBERS[random.nextInt(random.nextBoolean() ? NUMBERS.length : 12)];
    try {
      of.invoke(x, with);
    } catch (InvocationTargetException e) {
      System.out.println(of.getName() + Arrays.toString(with) + " threw " + e.getCause());
      System.exit(1);
    }
  }
}
