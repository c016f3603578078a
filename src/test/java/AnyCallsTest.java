import java.lang.reflect.InvocationTargetException;
import java.lang.reflect.Method;
import java.lang.reflect.Modifier;
import java.util.Arrays;
import java.util.Comparator;
import java.util.List;
import java.util.Random;
import java.util.function.Supplier;

/** Rules 7 and 13 of LANGUAGE.md: no call throws, whatever its arguments, and the same calls give the same answers. */
public final class AnyCallsTest {
  private static final int RUNS = 2000, CALLS = 512;
  private static final int[] ODD = {Due.LEAST, Due.LEAST + 1, -1000001, -256, -129, -2, -1, 7, 8, 9, 16, 17, 39, 40, 41,
      99, 100, 119, 120, 121, 127, 128, 255, 256, 511, 512, 999, 1000, 65536, Due.LARGEST - 1, Due.LARGEST};

  private static final Random RANDOM = new Random(3);

  public static void main(String[] args) throws ReflectiveOperationException {
    Method[] calls = Arrays.stream(FeetRoads.class.getDeclaredMethods()).filter(m -> Modifier.isPublic(m.getModifiers()))
        .sorted(Comparator.comparing(Method::getName)).toArray(Method[]::new);
    Due.is("calls", calls.length, 35);
    List<Supplier<FeetRoads>> makers = List.of(FeetRoads::new, Due::town, Twins::busy, Document::mill,
        () -> Due.landOf("f1,2;"), () -> Due.landOf("f1,2;p0,0;"), () -> Due.landOf("f1,2;l0,1,1;"),
        () -> Due.landOf("f30,8;" + Due.times("l0,7,9;", 9) + Due.times("p7,511;", 4)));
    for (int run = 0; run < RUNS; run++) {
      run(calls, makers.get(run % makers.size()));
    }
    Due.end();
  }

  private static void run(Method[] calls, Supplier<FeetRoads> maker) throws ReflectiveOperationException {
    FeetRoads one = maker.get();
    FeetRoads other = maker.get();
    long sum = 0;
    long sumOfOther = 0;
    for (int k = 0; k < CALLS; k++) {
      Method call = calls[RANDOM.nextInt(calls.length)];
      Object[] numbers = new Object[call.getParameterCount()];
      for (int i = 0; i < numbers.length; i++) {
        numbers[i] = number();
      }
      sum = sum * 31 + answer(call, one, numbers);
      sumOfOther = sumOfOther * 31 + answer(call, other, numbers);
    }
    Due.is("the same calls", sumOfOther, sum);
  }

  private static int number() {
    int choice = RANDOM.nextInt(20);
    return choice == 0 ? RANDOM.nextInt() : choice <= 3 ? ODD[RANDOM.nextInt(ODD.length)] : RANDOM.nextInt(5);
  }

  private static long answer(Method call, FeetRoads x, Object[] numbers) throws ReflectiveOperationException {
    try {
      return ((Number) call.invoke(x, numbers)).longValue();
    } catch (InvocationTargetException e) {
      Due.is(call.getName() + Arrays.toString(numbers) + " throws " + e.getCause(), 1, 0);
      return 0;
    }
  }
}
