/** Counts and prints the answers that are not the ones that are due. */
final class Check {
  private static int wrong = 0;

  private Check() {}

  static void due(String call, long got, long want) {
    if (got != want) {
      wrong++;
      System.out.println(call + " answered " + got + ", due is " + want);
    }
  }

  static void due(String call, boolean got, boolean want) {
    due(call, got ? 1L : 0L, want ? 1L : 0L);
  }

  /** The whole visible state must be the same as before, but for the entries named as free. */
  static void same(String call, int[] before, int[] after, int... free) {
    for (int i = 0; i < before.length; i++) {
      if (!contains(free, i)) {
        due(call + ", then " + State.name(i), after[i], before[i]);
      }
    }
  }

  static boolean failed() {
    return wrong != 0;
  }

  static void end() {
    if (wrong != 0) {
      System.out.println(wrong + " answers are not as due");
      System.exit(1);
    }
  }

  private static boolean contains(int[] list, int entry) {
    for (int each : list) {
      if (each == entry) {
        return true;
      }
    }
    return false;
  }
}
