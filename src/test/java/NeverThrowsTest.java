import java.lang.reflect.InvocationTargetException;
import java.lang.reflect.Method;
import java.lang.reflect.Modifier;
import java.util.Arrays;
import java.util.Comparator;
import java.util.List;
import java.util.Set;

/**
 * Any arguments in any state, far behind the 512th call: nothing but what the class throws itself, and only what the
 * method declares, comes out of a call.
 */
public final class NeverThrowsTest {
  private static final int CALLS = 60_000;
  private static final int[] EXTREMES = {Integer.MIN_VALUE, Integer.MIN_VALUE + 1, -33, -9, -2, -1, 6, 7, 8, 9, 12, 25,
      31, 32, 33, 99, 100, Integer.MAX_VALUE - 1, Integer.MAX_VALUE};

  private static long seed = 5301;
  private static int wrong = 0;

  public static void main(String[] args) throws Exception {
    Method[] face = Arrays.stream(Routetable.class.getDeclaredMethods())
        .filter(each -> Modifier.isPublic(each.getModifiers())).sorted(Comparator.comparing(Method::getName))
        .toArray(Method[]::new);
    for (int extremesInHundred : new int[] {2, 15, 60}) {
      Routetable x = new Routetable();
      for (int call = 0; call < CALLS; call++) {
        tryOne(x, face[below(face.length)], extremesInHundred);
      }
    }
    learnTooMuch();
    System.out.println(wrong == 0 ? "nothing throws by itself" : wrong + " calls threw what they must not");
    if (wrong > 0) {
      System.exit(1);
    }
  }

  private static int below(int bound) {
    seed = seed * 6364136223846793005L + 1442695040888963407L;
    return (int) ((seed >>> 33) % bound);
  }

  private static void tryOne(Routetable x, Method method, int extremesInHundred) throws Exception {
    Object[] told = new Object[method.getParameterCount()];
    for (int i = 0; i < told.length; i++) {
      int number = below(100) < extremesInHundred ? EXTREMES[below(EXTREMES.length)] : below(4);
      boolean isAddress = i == 1 && number > 1 && below(2) == 0;
      told[i] = method.getParameterTypes()[i] == boolean.class ? (Object) (number > 1)
          : (Object) (isAddress ? below(Integer.MAX_VALUE) << 1 : number);
    }
    try {
      method.invoke(x, told);
    } catch (InvocationTargetException e) {
      check(method, told, e.getCause());
    }
  }

  private static void check(Method method, Object[] told, Throwable thrown) {
    boolean isOurs = thrown.getStackTrace().length == 0
        || thrown.getStackTrace()[0].getClassName().startsWith("Routetable");
    boolean isDeclared = Set.of(method.getExceptionTypes()).contains(thrown.getClass());
    if (!isOurs || !isDeclared) {
      wrong++;
      System.out.println(method.getName() + List.of(told) + " threw " + thrown);
    }
  }

  /** More prefixes with penalties than any 512 calls can leave behind. */
  private static void learnTooMuch() {
    Routetable x = new Routetable();
    int refused = 0;
    for (int i = 0; i < 5000; i++) {
      try {
        x.offer(1, i << 8, 24, i % 4, 1, 1);
        x.withdraw(1, i << 8, 24, i % 4);
      } catch (IllegalStateException e) {
        refused++;
      }
    }
    x.digest();
    x.shrink(1);
    if (refused == 0 || refused == 5000) {
      wrong++;
      System.out.println("what is kept has no bound: " + refused + " of 5000 were refused");
    }
  }
}
