/** Promise 17: reset. */
public final class ResetTest {
  public static void main(String[] args) {
    programPcAndFaultsGo();
    theNextInstructionGoesIntoCell0();
    everyStateAllowsIt();
    Check.end();
  }

  private static void programPcAndFaultsGo() {
    ScoreboardCpu cpu = State.used();
    int[] before = State.of(cpu);
    Check.due("faultCount() before", cpu.faultCount(), 2);
    cpu.reset();
    Check.due("length()", cpu.length(), 0);
    Check.due("pc()", cpu.pc(), 0);
    Check.due("stopped()", cpu.stopped(), true);
    Check.due("faultCount()", cpu.faultCount(), 0);
    Check.due("firstFault()", cpu.firstFault(), ScoreboardCpu.NONE);
    Check.due("lastFault()", cpu.lastFault(), ScoreboardCpu.NONE);
    Check.same("reset()", before, State.of(cpu), State.LENGTH, State.PC, State.STOPPED,
        State.FAULT_COUNT, State.FIRST_FAULT, State.LAST_FAULT);
    Check.due("run(64)", cpu.run(64), 0);
  }

  private static void theNextInstructionGoesIntoCell0() {
    ScoreboardCpu cpu = State.used();
    cpu.reset();
    Check.due("refused emit", cpu.emit(1, 8, 0, 0), ScoreboardCpu.REFUSED);
    Check.due("emit", cpu.emit(ScoreboardCpu.DIV, 1, 2, 3), 0);
    cpu.setRegister(3, 0);
    Check.due("run(64) runs the new program alone", cpu.run(64), 1);
    Check.due("firstFault() is told afresh", cpu.firstFault(), 32);
    Check.due("lastFault() is told afresh", cpu.lastFault(), 32);
    Check.due("faultCount() is told afresh", cpu.faultCount(), 1);
  }

  private static void everyStateAllowsIt() {
    ScoreboardCpu cpu = new ScoreboardCpu(8, 8, 8, 8);
    int[] fresh = State.of(cpu);
    cpu.reset();
    Check.same("reset() of a fresh object", fresh, State.of(cpu));
    for (int cell = 0; cell < 32; cell++) {
      cpu.emit(ScoreboardCpu.ADD, 0, 0, 0);
    }
    cpu.run(64);
    Check.due("pc() before", cpu.pc(), 32);
    cpu.reset();
    Check.same("reset() at pc 32 and full", fresh, State.of(cpu));
    Check.due("emit after a full program", cpu.emit(0, 0, 0, 0), 0);
    cpu.run(64);
    cpu.reset();
    Check.same("reset() on HALT", fresh, State.of(cpu));
    cpu.jump(17);
    cpu.reset();
    Check.same("reset() beyond length", fresh, State.of(cpu));
  }
}
