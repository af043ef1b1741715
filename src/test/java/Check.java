import java.util.NoSuchElementException;

/** What the tests share: comparing an answer, or the exception of a call, with what is due. */
final class Check {
  static final Class<?> STATE = IllegalStateException.class;
  static final Class<?> ARGUMENT = IllegalArgumentException.class;
  static final Class<?> INDEX = IndexOutOfBoundsException.class;
  static final Class<?> UNSUPPORTED = UnsupportedOperationException.class;
  static final Class<?> NO_ELEMENT = NoSuchElementException.class;

  private static int wrong = 0;

  private Check() {}

  /** A call with an answer. */
  interface Call {
    Object answer();
  }

  static void due(String call, Object want, Object got) {
    // An int and a long of one value are one answer.
    if (!String.valueOf(want).equals(String.valueOf(got))) {
      wrong++;
      System.out.println(call + " answered " + got + ", due is " + want);
    }
  }

  static void refused(String call, Class<?> want, Runnable run) {
    due(call, "throws " + want.getSimpleName(), outcome(() -> { run.run(); return "nothing"; }));
  }

  /** The answer as a text, or the exception. */
  static String outcome(Call call) {
    try {
      return String.valueOf(call.answer());
    } catch (RuntimeException e) {
      return "throws " + e.getClass().getSimpleName();
    }
  }

  static boolean isClean() {
    return wrong == 0;
  }

  static void end() {
    System.out.println(wrong == 0 ? "all answers are as due" : wrong + " answers are not as due");
    if (wrong != 0) {
      System.exit(1);
    }
  }
}
