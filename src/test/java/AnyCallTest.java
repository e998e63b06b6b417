import java.util.NoSuchElementException;
import java.util.Random;

/** Any arguments in any state: a call answers, or throws a NoSuchElementException by its own hand. */
public final class AnyCallTest {
  private static final Kit kit = new Kit("AnyCallTest");
  private static final int[] INTS = {
    0, 1, 2, 3, 4, 5, 6, 7, 8, 11, 12, 13, 14, 15, 16, 19, 20, 31, 32, 33, 60, 64, 199, 200, 201, 9999, 10000, 10001,
    -1, -2, -31, -32, -33, Integer.MAX_VALUE, Integer.MIN_VALUE, Integer.MIN_VALUE + 1
  };
  private static final long[] LONGS = {
    0, 1, -1, 15, 16, -16, 0x10, 0x210, 0x3210, 0xBA9876543210L, 0xFA9876543210L, 0xC10, 0xD2C10, Long.MAX_VALUE,
    Long.MIN_VALUE, 1L << 32, 229442532802560000L, 229442532802559999L
  };

  public static void main(String[] args) {
    for (int seed = 0; seed < 400; seed++) {
      run(new Random(seed));
    }
    kit.finish();
  }

  private static void run(Random random) {
    GroundPlan plan = new GroundPlan();
    int blocks = random.nextInt(14);
    for (int i = 0; i < blocks; i++) {
      plan.block(1 + random.nextInt(9), 1 + random.nextInt(9), random.nextBoolean());
    }
    for (int call = 0; call < 200; call++) {
      begin(plan, random);
      int which = random.nextInt(26);
      try {
        call(plan, which, random);
        kit.due("call " + which, 0, 0);
      } catch (NoSuchElementException e) {
        String thrower = e.getStackTrace()[0].getClassName();
        kit.yes("call " + which + " throws by its own hand", thrower.startsWith("GroundPlan"));
      } catch (RuntimeException e) {
        e.printStackTrace(System.out);
        kit.no("call " + which + " throws " + e, true);
      }
    }
  }

  /** Now and then a laying of some kind, so that wild calls meet one. */
  private static void begin(GroundPlan plan, Random random) {
    switch (random.nextInt(16)) {
      case 0 -> plan.of(0);
      case 1 -> plan.places();
      case 2 -> plan.cuts(0xC3C2C10L, 0, random.nextInt());
      case 3 -> plan.tree(0, 0xBA987654321L | 0xFFFFFL << 44, -1, random.nextInt());
      default -> { }
    }
  }

  private static int anInt(Random random) {
    return random.nextInt(8) == 0 ? random.nextInt() : INTS[random.nextInt(INTS.length)];
  }

  private static long aLong(Random random) {
    return random.nextInt(4) == 0 ? random.nextLong() : LONGS[random.nextInt(LONGS.length)];
  }

  private static void call(GroundPlan plan, int which, Random random) {
    int i = anInt(random);
    int j = anInt(random);
    int k = anInt(random);
    long a = aLong(random);
    long b = aLong(random);
    switch (which) {
      case 0 -> plan.block(i, j, random.nextBoolean());
      case 1 -> plan.less();
      case 2 -> plan.side(i, j);
      case 3 -> plan.net(i, j);
      case 4 -> plan.places();
      case 5 -> plan.put(i, j, k, random.nextBoolean());
      case 6 -> plan.pair(a, b, i);
      case 7 -> plan.cuts(a, b, i);
      case 8 -> plan.tree(i, a, b, j);
      case 9 -> plan.about(i);
      case 10 -> plan.at(i, j);
      case 11 -> plan.told(i);
      case 12 -> plan.slack(i, j);
      case 13 -> plan.wires();
      case 14 -> plan.from();
      case 15 -> plan.isCut();
      case 16 -> plan.normal();
      case 17 -> plan.curve();
      case 18 -> plan.shape(i, j);
      case 19 -> plan.best(i);
      case 20 -> plan.swap(i & 1, j, k);
      case 21 -> plan.least(i);
      case 22 -> plan.count(i, j);
      case 23 -> plan.rank();
      case 24 -> plan.of(a);
      default -> plan.swap(i, j, k);
    }
  }
}
