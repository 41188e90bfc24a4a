/** Promises 2 and 3: setLatency and latency. */
public final class LatencyTest {
  private static final int MIN = Integer.MIN_VALUE;
  private static final int MAX = Integer.MAX_VALUE;
  private static final int[] CYCLES = {MIN, -1, 0, 1, 2, 5, 7, 8, 9, 64, MAX};

  public static void main(String[] args) {
    aWrongUnitIsRefusedWhateverTheCycles();
    belowOneBecomesOne();
    aboveEightBecomesEight();
    betweenIsTakenAsItIs();
    nothingElseChanges();
    noLaterAnswerDependsOnIt();
    latencyIsThePresentOne();
    latencyOfAWrongUnitIsRefused();
    Check.end();
  }

  // "`setLatency(unit, cycles)` answers `REFUSED` and changes nothing if `unit` is not in 0..3,
  // whatever `cycles` is."
  private static void aWrongUnitIsRefusedWhateverTheCycles() {
    for (int cycles : CYCLES) {
      for (int unit : new int[] {MIN, -2, -1, 4, 5, 8, MAX}) {
        ScoreboardCpu cpu = State.used();
        String call = "setLatency(" + unit + ", " + cycles + ")";
        Check.due(call, cpu.setLatency(unit, cycles), ScoreboardCpu.REFUSED);
        Check.untouched(call, cpu, Situations.BEFORE_ADD);
      }
      for (int unit = 0; unit < 4; unit++) {
        String call = "setLatency(" + unit + ", " + cycles + ")";
        Check.due(call, State.used().setLatency(unit, cycles), ScoreboardCpu.OK);
      }
    }
  }

  // "(below 1 becomes 1, ..." at 0, on both sides of it, and far off
  private static void belowOneBecomesOne() {
    becomes(new int[] {MIN, MIN + 1, -2, -1, 0, 1, 2}, new int[] {1, 1, 1, 1, 1, 1, 2});
  }

  // "... above 8 becomes 8)" at 9, on both sides of it, and far off
  private static void aboveEightBecomesEight() {
    becomes(new int[] {7, 8, 9, 10, 64, MAX - 1, MAX}, new int[] {7, 8, 8, 8, 8, 8, 8});
  }

  // "Otherwise the latency of that unit becomes `cycles`"
  private static void betweenIsTakenAsItIs() {
    int[] all = {1, 2, 3, 4, 5, 6, 7, 8};
    becomes(all, all);
  }

  private static void becomes(int[] cycles, int[] due) {
    for (int unit = 0; unit < 4; unit++) {
      for (int i = 0; i < cycles.length; i++) {
        ScoreboardCpu cpu = State.used();
        String call = "setLatency(" + unit + ", " + cycles[i] + ")";
        Check.due(call, cpu.setLatency(unit, cycles[i]), ScoreboardCpu.OK);
        Check.due(call + ", then latency(" + unit + ")", cpu.latency(unit), due[i]);
      }
    }
  }

  // "The latencies of the other units, the registers, memory, program, pc and faults do not
  // change."
  private static void nothingElseChanges() {
    for (int situation = 0; situation < Situations.COUNT; situation++) {
      for (int unit = 0; unit < 4; unit++) {
        for (int cycles : CYCLES) {
          ScoreboardCpu cpu = Situations.make(situation);
          int[] before = State.of(cpu);
          String call = "setLatency(" + unit + ", " + cycles + ")" + Situations.name(situation);
          cpu.setLatency(unit, cycles);
          Check.same(call, before, State.of(cpu), State.LATENCY_0 + unit);
          cpu.setLatency(unit, before[State.LATENCY_0 + unit]);
          Check.untouched(call + " and back", cpu, situation);
        }
      }
    }
  }

  // "No later answer other than that of `latency` for this unit depends on the new value." and of
  // What it is: "Latencies show in the answers of `latency(unit)` and nowhere else."
  private static void noLaterAnswerDependsOnIt() {
    ScoreboardCpu first = overlapping(1, 1, 1, 1);
    int[] answers = laterAnswers(first);
    int[] state = State.of(first);
    for (int code = 0; code < 4096; code++) {
      ScoreboardCpu next =
          overlapping(code % 8 + 1, code / 8 % 8 + 1, code / 64 % 8 + 1, code / 512 + 1);
      String what = "latencies of code " + code;
      int[] nextAnswers = laterAnswers(next);
      for (int i = 0; i < answers.length; i++) {
        Check.due("later answer " + i + " with " + what, nextAnswers[i], answers[i]);
      }
      Check.same("run with " + what, state, State.of(next), 40, 41, 42, 43);
    }
  }

  // Every call that answers a number, with right and with wrong arguments, between runs.
  private static int[] laterAnswers(ScoreboardCpu cpu) {
    return new int[] {
      cpu.run(25), cpu.pc(), cpu.faultCount(), cpu.lastFault(), cpu.run(1), cpu.run(65),
      cpu.setRegister(2, 3), cpu.setRegister(8, 3), cpu.setMemory(31, 6), cpu.setMemory(32, 6),
      cpu.emit(ScoreboardCpu.STORE, 5, 0, 9), cpu.emit(ScoreboardCpu.DIV, 5, 0, 9), cpu.length(),
      cpu.jump(2), cpu.run(12), cpu.register(5), cpu.memory(3), cpu.jump(32), cpu.run(64),
      cpu.stopped() ? 1 : 0, cpu.firstFault(), cpu.setLatency(4, 1), cpu.latency(-1)
    };
  }

  // Each line after the first depends on an earlier one through a register or a memory word.
  private static ScoreboardCpu overlapping(int adder, int multiplier, int divider, int memoryUnit) {
    ScoreboardCpu cpu = new ScoreboardCpu(1, 1, 1, 1);
    cpu.setRegister(1, 91);
    cpu.setRegister(2, 7);
    cpu.emit(ScoreboardCpu.DIV, 3, 1, 2);
    cpu.emit(ScoreboardCpu.MUL, 4, 3, 2);
    cpu.emit(ScoreboardCpu.ADDI, 2, 2, 1);
    cpu.emit(ScoreboardCpu.STORE, 4, 0, 3);
    cpu.emit(ScoreboardCpu.ADDI, 4, 0, 5);
    cpu.emit(ScoreboardCpu.REM, 5, 1, 0);
    cpu.emit(ScoreboardCpu.LOAD, 5, 0, 3);
    cpu.emit(ScoreboardCpu.STORE, 5, 0, 40);
    cpu.emit(ScoreboardCpu.MUL, 5, 5, 5);
    cpu.emit(ScoreboardCpu.BLT, 0, 2, 5);
    cpu.emit(ScoreboardCpu.SUB, 6, 5, 4);
    cpu.setLatency(0, adder);
    cpu.setLatency(1, multiplier);
    cpu.setLatency(2, divider);
    cpu.setLatency(3, memoryUnit);
    return cpu;
  }

  // "`latency(unit)` answers the present latency of the unit, 1..8"
  private static void latencyIsThePresentOne() {
    for (int unit = 0; unit < 4; unit++) {
      ScoreboardCpu cpu = State.used();
      Check.due("latency(" + unit + ") as made", cpu.latency(unit), 2 + unit);
      cpu.setLatency(unit, 8);
      Check.due("latency(" + unit + ") set", cpu.latency(unit), 8);
      cpu.setLatency(unit, 1);
      Check.due("latency(" + unit + ") set again", cpu.latency(unit), 1);
      cpu.setLatency(4, 6);
      cpu.setLatency(-1, 6);
      Check.due("latency(" + unit + ") after a refusal", cpu.latency(unit), 1);
      cpu.run(64);
      Check.due("latency(" + unit + ") after a run", cpu.latency(unit), 1);
      cpu.reset();
      Check.due("latency(" + unit + ") after a reset", cpu.latency(unit), 1);
    }
  }

  // "... if `unit` is in 0..3, and `REFUSED` for every other `unit`."
  private static void latencyOfAWrongUnitIsRefused() {
    for (int unit : new int[] {MIN, -3, -2, -1, 4, 5, 7, 8, MAX}) {
      Check.due("latency(" + unit + ")", State.used().latency(unit), ScoreboardCpu.REFUSED);
    }
    Check.due("latency(0)", State.used().latency(0), 2);
    Check.due("latency(3)", State.used().latency(3), 5);
  }
}
