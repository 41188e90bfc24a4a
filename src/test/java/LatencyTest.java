/** Promises 2 and 3: setLatency and latency. */
public final class LatencyTest {
  public static void main(String[] args) {
    eachUnitIsSetAndClamped();
    wrongUnitsAreRefused();
    readingChangesNothing();
    runsDoNotDependOnLatencies();
    Check.end();
  }

  private static void eachUnitIsSetAndClamped() {
    int[] cycles = {1, 5, 8, 0, 9, -1, 64, Integer.MIN_VALUE, Integer.MAX_VALUE};
    int[] due = {1, 5, 8, 1, 8, 1, 8, 1, 8};
    for (int unit = 0; unit < 4; unit++) {
      for (int i = 0; i < cycles.length; i++) {
        ScoreboardCpu cpu = State.used();
        int[] before = State.of(cpu);
        String call = "setLatency(" + unit + ", " + cycles[i] + ")";
        Check.due(call, cpu.setLatency(unit, cycles[i]), ScoreboardCpu.OK);
        Check.due(call + ", then latency(" + unit + ")", cpu.latency(unit), due[i]);
        Check.same(call, before, State.of(cpu), State.LATENCY_0 + unit);
      }
    }
  }

  private static void wrongUnitsAreRefused() {
    for (int unit : new int[] {-1, 4, 5, 8, Integer.MIN_VALUE, Integer.MAX_VALUE}) {
      for (int cycles : new int[] {1, 8, 0, 9}) {
        ScoreboardCpu cpu = State.used();
        int[] before = State.of(cpu);
        String call = "setLatency(" + unit + ", " + cycles + ")";
        Check.due(call, cpu.setLatency(unit, cycles), ScoreboardCpu.REFUSED);
        Check.due("latency(" + unit + ")", cpu.latency(unit), ScoreboardCpu.REFUSED);
        Check.same(call, before, State.of(cpu));
      }
    }
  }

  private static void readingChangesNothing() {
    ScoreboardCpu cpu = State.used();
    int[] before = State.of(cpu);
    for (int unit = -2; unit < 6; unit++) {
      cpu.latency(unit);
    }
    Check.same("latency", before, State.of(cpu));
  }

  private static void runsDoNotDependOnLatencies() {
    int[] first = stateAfterOverlap(1, 1, 1, 1);
    for (int code = 0; code < 4096; code++) {
      int[] next = stateAfterOverlap(code % 8 + 1, code / 8 % 8 + 1, code / 64 % 8 + 1, code / 512 + 1);
      Check.same("run with latencies of code " + code, first, next, 40, 41, 42, 43);
    }
  }

  // Each line after the first depends on an earlier one through a register or a memory word.
  private static int[] stateAfterOverlap(int adder, int multiplier, int divider, int memoryUnit) {
    ScoreboardCpu cpu = new ScoreboardCpu(1, 1, 1, 1);
    cpu.setRegister(1, 91);
    cpu.setRegister(2, 7);
    cpu.emit(ScoreboardCpu.DIV, 3, 1, 2);
    cpu.emit(ScoreboardCpu.MUL, 4, 3, 2);
    cpu.emit(ScoreboardCpu.ADDI, 2, 2, 1);
    cpu.emit(ScoreboardCpu.STORE, 4, 0, 3);
    cpu.emit(ScoreboardCpu.ADDI, 4, 0, 5);
    cpu.emit(ScoreboardCpu.REM, 5, 1, 0);
    cpu.emit(ScoreboardCpu.LOAD, 5, 0, 3);
    cpu.emit(ScoreboardCpu.STORE, 5, 0, 40);
    cpu.emit(ScoreboardCpu.MUL, 5, 5, 5);
    cpu.emit(ScoreboardCpu.BLT, 0, 2, 5);
    cpu.emit(ScoreboardCpu.SUB, 6, 5, 4);
    cpu.setLatency(0, adder);
    cpu.setLatency(1, multiplier);
    cpu.setLatency(2, divider);
    cpu.setLatency(3, memoryUnit);
    cpu.run(25);
    return State.of(cpu);
  }
}
