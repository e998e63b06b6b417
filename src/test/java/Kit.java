import java.util.NoSuchElementException;

/** Counts answers that are not as due, and ends a test with exit code 1 if there was one. */
final class Kit {
  /** What stands for an answer that is a NoSuchElementException. */
  static final long THROWN = Long.MIN_VALUE + 7;

  private final String name;
  private String held = "";
  private int wrong;
  private int asked;

  Kit(String name) {
    this.name = name;
  }

  /** A call whose answer is a number, or a boolean as 1 or 0. */
  interface Call {
    long answer();
  }

  /** What the answers from now on hold the class to; every complaint names it. */
  void hold(String sentence) {
    held = sentence + ": ";
  }

  void due(String call, long want, long got) {
    asked++;
    if (got != want) {
      wrong++;
      if (wrong <= 50) {
        System.out.println(name + ": " + held + call + " answered " + text(got) + ", due is " + text(want));
      }
    }
  }

  void due(String call, long want, Call asks) {
    due(call, want, answerOf(asks));
  }

  void yes(String call, boolean got) {
    due(call, 1, got ? 1 : 0);
  }

  void no(String call, boolean got) {
    due(call, 0, got ? 1 : 0);
  }

  void thrown(String call, Call asks) {
    due(call, THROWN, answerOf(asks));
  }

  static long answerOf(Call asks) {
    try {
      return asks.answer();
    } catch (NoSuchElementException e) {
      return THROWN;
    }
  }

  int wrong() {
    return wrong;
  }

  void finish() {
    System.out.println(name + ": " + asked + " answers, " + wrong + " not as due");
    if (wrong != 0 || asked == 0) {
      System.exit(1);
    }
  }

  /** Numbers as a long, four bits each, the first lowest, 15s behind the last one. */
  static long row(int... numbers) {
    long packed = -1L;
    for (int i = 0; i < numbers.length && i < 16; i++) {
      packed &= ~(15L << (4 * i));
      packed |= (long) numbers[i] << (4 * i);
    }
    return packed;
  }

  private static String text(long answer) {
    return answer == THROWN ? "throws.NoSuchElementException" : Long.toString(answer);
  }
}
