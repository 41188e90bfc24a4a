/** Promise 12, Refusal, Extent, Answer and What stays; promise 13, stopped. */
public final class RunTest {
  public static void main(String[] args) {
    wrongCountsAreRefused();
    countBoundsTheRun();
    endOfProgramStops();
    haltStops();
    branchesCountAndLeaveTheProgram();
    faultsDoNotStop();
    aStopIsNotRemembered();
    aStoppedRunChangesNothing();
    splittingMakesNoDifference();
    nothingIsLeftUnfinished();
    Check.end();
  }

  private static void wrongCountsAreRefused() {
    for (int count : new int[] {0, -1, 65, 66, Integer.MIN_VALUE, Integer.MAX_VALUE}) {
      ScoreboardCpu cpu = State.used();
      int[] before = State.of(cpu);
      Check.due("run(" + count + ")", cpu.run(count), ScoreboardCpu.REFUSED);
      Check.same("run(" + count + ")", before, State.of(cpu));
    }
    Check.due("run(0) of a stopped machine", new ScoreboardCpu(1, 1, 1, 1).run(0), -1);
    Check.due("run(65) of a stopped machine", new ScoreboardCpu(1, 1, 1, 1).run(65), -1);
  }

  private static void countBoundsTheRun() {
    for (int latency = 1; latency <= 8; latency++) {
      for (int count = 1; count <= 64; count++) {
        ScoreboardCpu cpu = new ScoreboardCpu(latency, 1, 1, 1);
        cpu.emit(ScoreboardCpu.ADDI, 1, 1, 1);
        cpu.emit(ScoreboardCpu.BEQ, 0, 0, 0);
        Check.due("run(" + count + ") of an endless loop", cpu.run(count), count);
        Check.due("register(1) after " + count, cpu.register(1), (count + 1) / 2);
        Check.due("pc() after " + count, cpu.pc(), count % 2);
        Check.due("stopped() after " + count, cpu.stopped(), false);
      }
    }
  }

  private static void endOfProgramStops() {
    for (int length = 0; length <= 32; length++) {
      ScoreboardCpu cpu = new ScoreboardCpu(2, 1, 1, 1);
      for (int cell = 0; cell < length; cell++) {
        cpu.emit(ScoreboardCpu.ADDI, 1, 1, 1);
      }
      Check.due("stopped() before a program of " + length, cpu.stopped(), length == 0);
      Check.due("run(64) of " + length, cpu.run(64), length);
      Check.due("register(1) after " + length, cpu.register(1), length);
      Check.due("pc() after " + length, cpu.pc(), length);
      Check.due("stopped() after " + length, cpu.stopped(), true);
    }
  }

  private static void haltStops() {
    ScoreboardCpu cpu = new ScoreboardCpu(2, 1, 1, 1);
    cpu.emit(ScoreboardCpu.ADDI, 1, 1, 1);
    cpu.emit(ScoreboardCpu.HALT, 1, 2, 3);
    cpu.emit(ScoreboardCpu.ADDI, 1, 1, 10);
    Check.due("run(64) up to HALT", cpu.run(64), 1);
    Check.due("pc() on HALT", cpu.pc(), 1);
    Check.due("stopped() on HALT", cpu.stopped(), true);
    Check.due("run(64) on HALT", cpu.run(64), 0);
    Check.due("pc() still on HALT", cpu.pc(), 1);
    Check.due("register(1)", cpu.register(1), 1);
    cpu.jump(2);
    Check.due("stopped() behind HALT", cpu.stopped(), false);
    Check.due("run(64) behind HALT", cpu.run(64), 1);
    Check.due("register(1) at the end", cpu.register(1), 11);
  }

  private static void branchesCountAndLeaveTheProgram() {
    ScoreboardCpu cpu = new ScoreboardCpu(3, 1, 1, 1);
    cpu.emit(ScoreboardCpu.ADDI, 1, 1, 1);
    cpu.emit(ScoreboardCpu.BNE, 0, 1, 0);
    cpu.setRegister(1, -3);
    Check.due("run(64) of a loop of three rounds", cpu.run(64), 6);
    cpu.reset();
    cpu.emit(ScoreboardCpu.BEQ, 20, 0, 0);
    Check.due("run(64) of a branch beyond length", cpu.run(64), 1);
    Check.due("pc() there", cpu.pc(), 20);
    Check.due("stopped() there", cpu.stopped(), true);
    cpu.jump(0);
    cpu.reset();
    cpu.emit(ScoreboardCpu.BEQ, 1, 0, 0);
    Check.due("run(64) of a branch to length", cpu.run(64), 1);
    Check.due("pc() at length", cpu.pc(), 1);
    Check.due("stopped() at length", cpu.stopped(), true);
    cpu.reset();
    cpu.emit(ScoreboardCpu.BEQ, 0, 0, 0);
    Check.due("run(64) of a branch to itself", cpu.run(64), 64);
    Check.due("pc() on it", cpu.pc(), 0);
  }

  private static void faultsDoNotStop() {
    ScoreboardCpu cpu = new ScoreboardCpu(1, 1, 8, 3);
    cpu.emit(ScoreboardCpu.DIV, 1, 2, 0);
    cpu.emit(ScoreboardCpu.LOAD, 1, 0, 32);
    cpu.emit(ScoreboardCpu.STORE, 1, 0, -1);
    cpu.emit(ScoreboardCpu.REM, 1, 2, 0);
    cpu.emit(ScoreboardCpu.ADDI, 3, 0, 9);
    Check.due("run(64) with faults", cpu.run(64), 5);
    Check.due("register(3)", cpu.register(3), 9);
    Check.due("pc()", cpu.pc(), 5);
    Check.due("faultCount()", cpu.faultCount(), 4);
  }

  private static void aStopIsNotRemembered() {
    ScoreboardCpu cpu = new ScoreboardCpu(1, 1, 1, 1);
    Check.due("run(1) of nothing", cpu.run(1), 0);
    cpu.jump(2);
    cpu.emit(ScoreboardCpu.ADDI, 1, 1, 1);
    cpu.emit(ScoreboardCpu.ADDI, 1, 1, 1);
    Check.due("stopped() at length 2", cpu.stopped(), true);
    Check.due("run(1) at length 2", cpu.run(1), 0);
    cpu.emit(ScoreboardCpu.ADDI, 1, 1, 1);
    Check.due("stopped() at length 3", cpu.stopped(), false);
    Check.due("run(9) at length 3", cpu.run(9), 1);
    cpu.emit(ScoreboardCpu.HALT, 0, 0, 0);
    Check.due("stopped() after HALT was emitted at pc", cpu.stopped(), true);
    cpu.jump(0);
    Check.due("stopped() after jump(0)", cpu.stopped(), false);
    Check.due("run(64) from 0", cpu.run(64), 3);
  }

  private static void aStoppedRunChangesNothing() {
    ScoreboardCpu cpu = State.used();
    cpu.run(64);
    int[] before = State.of(cpu);
    Check.due("run(64) at length", cpu.run(64), 0);
    cpu.stopped();
    Check.same("run(64) at length", before, State.of(cpu));
    cpu.emit(ScoreboardCpu.HALT, 1, 1, 1);
    before = State.of(cpu);
    Check.due("run(64) on HALT", cpu.run(64), 0);
    Check.same("run(64) on HALT", before, State.of(cpu));
  }

  private static void splittingMakesNoDifference() {
    int[] whole = State.of(mixed(64, 64));
    for (int part = 1; part < 64; part++) {
      Check.same("64 instructions in parts of " + part, whole, State.of(mixed(64, part)));
    }
  }

  private static ScoreboardCpu mixed(int total, int part) {
    ScoreboardCpu cpu = new ScoreboardCpu(2, 5, 8, 3);
    cpu.setRegister(1, 1000);
    cpu.setRegister(2, 3);
    cpu.emit(ScoreboardCpu.DIV, 3, 1, 2);
    cpu.emit(ScoreboardCpu.MUL, 4, 2, 2);
    cpu.emit(ScoreboardCpu.STORE, 3, 5, 0);
    cpu.emit(ScoreboardCpu.LOAD, 6, 5, -1);
    cpu.emit(ScoreboardCpu.REM, 7, 1, 5);
    cpu.emit(ScoreboardCpu.ADDI, 5, 5, 1);
    cpu.emit(ScoreboardCpu.SUB, 1, 1, 6);
    cpu.emit(ScoreboardCpu.BNE, 0, 5, 4);
    cpu.emit(ScoreboardCpu.BEQ, 1, 0, 0);
    int left = total;
    while (left > 0) {
      int asked = Math.min(left, part);
      Check.due("run(" + asked + ")", cpu.run(asked), asked);
      left -= asked;
    }
    return cpu;
  }

  // A slow result must be there when the call answers, and a value set then must not be overrun.
  private static void nothingIsLeftUnfinished() {
    ScoreboardCpu cpu = new ScoreboardCpu(8, 8, 8, 8);
    cpu.setRegister(1, 6);
    cpu.emit(ScoreboardCpu.ADDI, 2, 1, 1);
    cpu.emit(ScoreboardCpu.MUL, 3, 1, 1);
    cpu.emit(ScoreboardCpu.DIV, 4, 1, 1);
    cpu.emit(ScoreboardCpu.STORE, 1, 0, 31);
    cpu.emit(ScoreboardCpu.ADDI, 5, 1, 100);
    Check.due("run(4)", cpu.run(4), 4);
    Check.due("register(2)", cpu.register(2), 7);
    Check.due("register(3)", cpu.register(3), 36);
    Check.due("register(4)", cpu.register(4), 1);
    Check.due("memory(31)", cpu.memory(31), 6);
    Check.due("register(5), not yet executed", cpu.register(5), 0);
    cpu.setRegister(2, 70);
    cpu.setRegister(4, 10);
    cpu.setMemory(31, 60);
    cpu.run(64);
    Check.due("register(2) set after the run", cpu.register(2), 70);
    Check.due("register(4) set after the run", cpu.register(4), 10);
    Check.due("memory(31) set after the run", cpu.memory(31), 60);
    Check.due("register(5)", cpu.register(5), 106);
  }
}
