/** Counts and prints the answers that are not the ones that are due. */
final class Check {
  private static int wrong = 0;

  private Check() {}

  static void due(String call, long got, long want) {
    if (got != want) {
      wrong++;
      System.out.println(call + " answered " + got + ", due is " + want);
    }
  }

  static void due(String call, boolean got, boolean want) {
    due(call, got ? 1L : 0L, want ? 1L : 0L);
  }

  /** The whole visible state must be the same as before, but for the entries named as free. */
  static void same(String call, int[] before, int[] after, int... free) {
    for (int i = 0; i < before.length; i++) {
      if (after[i] != before[i] && !contains(free, i)) {
        due(call + ", then " + State.name(i), after[i], before[i]);
      }
    }
  }

  /** Nothing may tell the object, which is used up here, from an untouched one of its situation. */
  static void untouched(String call, ScoreboardCpu cpu, int situation) {
    ScoreboardCpu twin = Situations.make(situation);
    int[] want = State.of(twin);
    int[] got = State.of(cpu);
    same(call, want, got);
    sameInside(call, Inside.of(cpu), Inside.of(twin));
  }

  static void sameInside(String call, int[] got, int[] want) {
    for (int i = 0; i < want.length; i++) {
      if (got[i] != want[i]) {
        due(call + ", then a later answer (" + Inside.name(i) + ")", got[i], want[i]);
        return;
      }
    }
  }

  static void sameProgram(String call, int[] got, int[] want) {
    for (int i = 0; i < want.length; i++) {
      if (got[i] != want[i]) {
        due(call + ", then a later answer (" + Inside.programName(i) + ")", got[i], want[i]);
        return;
      }
    }
  }

  static boolean failed() {
    return wrong != 0;
  }

  static void end() {
    if (wrong != 0) {
      System.out.println(wrong + " answers are not as due");
      System.exit(1);
    }
  }

  private static boolean contains(int[] list, int entry) {
    for (int each : list) {
      if (each == entry) {
        return true;
      }
    }
    return false;
  }
}
