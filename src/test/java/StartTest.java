/** Promise 1: the constructor and the start. */
public final class StartTest {
  public static void main(String[] args) {
    latenciesAreClampedEachOnItsOwn();
    everythingElseIsEmpty();
    objectsShareNothing();
    Check.end();
  }

  private static void latenciesAreClampedEachOnItsOwn() {
    latencies(1, 2, 3, 4);
    latencies(8, 7, 6, 5);
    latencies(0, 1, 8, 9);
    latencies(9, 8, 1, 0);
    latencies(-1, 10, Integer.MIN_VALUE, Integer.MAX_VALUE);
    latencies(Integer.MAX_VALUE, Integer.MIN_VALUE, 100, -100);
  }

  private static void latencies(int... given) {
    ScoreboardCpu cpu = new ScoreboardCpu(given[0], given[1], given[2], given[3]);
    for (int unit = 0; unit < 4; unit++) {
      int want = given[unit] < 1 ? 1 : given[unit] > 8 ? 8 : given[unit];
      Check.due("latency(" + unit + ") made with " + given[unit], cpu.latency(unit), want);
    }
  }

  private static void everythingElseIsEmpty() {
    int[] state = State.of(new ScoreboardCpu(3, 3, 3, 3));
    for (int entry = 0; entry < State.SIZE; entry++) {
      Check.due("fresh " + State.name(entry), state[entry], freshEntry(entry));
    }
    Check.due("fresh run(64)", new ScoreboardCpu(3, 3, 3, 3).run(64), 0);
  }

  private static int freshEntry(int entry) {
    if (entry >= State.LATENCY_0 && entry < State.LENGTH) {
      return 3;
    }
    if (entry == State.STOPPED) {
      return 1;
    }
    return entry == State.FIRST_FAULT || entry == State.LAST_FAULT ? -1 : 0;
  }

  private static void objectsShareNothing() {
    ScoreboardCpu other = new ScoreboardCpu(1, 1, 1, 1);
    int[] before = State.of(other);
    State.used();
    Check.same("work on another object", before, State.of(other));
  }
}
